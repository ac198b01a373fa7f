/** Promises 1 to 17, 21 and 22: what they do at the edges that they name. What they refuse is in RefusedTest. */
final class PromiseEdgesTest {
    private static final int LOW = Integer.MIN_VALUE;
    private static final int HIGH = Integer.MAX_VALUE;
    private static final int TAKE = 0;
    private static final int PART = 1;
    private static final int AGAIN = 2;
    private static final Due due = new Due();
    private static final Twin twin = new Twin(due);

    public static void main(String[] args) {
        newObject();
        scorePartsBeyond();
        scoreClears();
        scoreLeaves();
        takeIgnoresWhatIsOfOthers();
        takeAnew();
        tearAndTakeAnew();
        playNone();
        playUpTo400();
        playWrapsAround();
        copyNone();
        copyAll();
        copyCuts();
        copyOfItself();
        putAtTheEnds();
        sampleMinusOne();
        asOfAllKinds();
        handTakenOff();
        layLeavesWhatWas();
        markUpToNine();
        setTellsWhatItWas();
        barIsNewOrNot();
        keepTellsWhatItHad();
        askingLeavesAll();
        due.end();
    }

    private static void newObject() {
        Desk x = new Desk();
        for (int t = 0; t < 6; t++) {
            due.is("1, no takes", x.tear(t), Due.MISSING);
        }
        for (int b = 1; b < 4; b++) {
            due.is("1, no bars", x.bar(b, false), 0);
        }
        for (int b = 0; b < 4; b++) {
            due.is("1, nothing kept", x.keep(b, -1), -1);
        }
        due.is("1, four beats", x.keep(4, -1), Due.BEYOND);
        due.is("1, nothing told", x.check(), 1);
        due.is("1, no numbers wait", x.tell(0), 1);
        int[] found = {1, 6, 0, 0, 0, 0, 0};
        for (int n = 0; n < 7; n++) {
            due.is("1, nothing found but these", x.found(Due.BEYOND - n), found[n]);
        }
    }

    private static void scorePartsBeyond() {
        for (int kind : new int[] {PART, AGAIN}) {
            for (int last = 0; last < 4; last++) {
                for (int beats = 1; beats <= 5; beats++) {
                    Desk x = new Desk();
                    x.take(0, kind, 0, last, 0);
                    x.take(1, kind, last, last, 0);
                    x.play(0, 11, 100, 1);
                    x.score(beats);
                    String sentence = "2, parts that have beats beyond are MISSING: " + last + " of " + beats;
                    due.is(sentence, x.sample(0, -1), last < beats ? 11 : Due.MISSING);
                    due.is(sentence, x.as(1, kind), last < beats ? 1 : Due.MISSING);
                }
            }
        }
    }

    private static void scoreClears() {
        for (int beats : new int[] {1, 4, 24}) {
            Desk x = new Desk();
            x.take(0, TAKE, 0, 0, 0);
            x.play(0, 400, 0, 0);
            x.hand(0, 0, 9);
            x.mark(0, 0, 3);
            x.mark(0, 3, 0);
            x.beat(0, 777, 7);
            x.bar(3, true);
            x.keep(0, 5);
            x.keep(3, 0);
            x.lay(0);
            due.is("2, B", x.score(beats), beats);
            due.is("2, nothing is laid", x.frame(0, 0), Due.NONE);
            for (int b = 0; b < beats; b++) {
                due.is("2, kept beats are gone", x.keep(b, -1), -1);
                due.is("2, bars are gone", x.bar(b, false), b == 0 ? Due.BEYOND : 0);
                due.is("2, marks are gone", x.worth(0, b), 1000);
                due.is("2, marks are gone", x.mark(0, b, b % 4), 1);
            }
            int gaps = Math.max(0, 3 * (beats - 1) - 39);
            due.is("2, all as at first", x.lay(0), 100 * beats + 20 * gaps);
            due.is("2, hands' frames are gone", x.frame(0, 0), 0);
        }
    }

    private static void scoreLeaves() {
        Desk x = new Desk();
        x.take(0, TAKE, 0, 0, 0);
        x.play(0, 400, 100, 5);
        int last = x.sample(0, 399);
        x.set(0, 20);
        x.set(1, 9);
        x.set(2, 1000);
        x.set(3, 9);
        x.tell(0);
        x.way(0);
        x.score(24);
        due.is("2, samples stay", x.sample(0, -1), 400);
        due.is("2, samples stay", x.sample(0, 399), last);
        due.is("2, W stays", x.set(0, 8), 20);
        due.is("2, D stays", x.set(1, 3), 9);
        due.is("2, the constant stays", x.set(2, 200), 1000);
        due.is("2, R stays", x.set(3, 4), 9);
        due.is("2, a number waits", x.tell(0), 2);
        due.is("2, what was found stays", x.found(Due.NONE), 1);
    }

    private static void takeIgnoresWhatIsOfOthers() {
        int[] any = {LOW, -1, 4, 1001, HIGH};
        for (int kind : new int[] {0, 3, 4}) {
            for (int v : any) {
                Desk x = new Desk();
                due.is("4, beats are of PART and AGAIN alone", x.take(0, kind, v, -v, 0), 1);
                due.is("4, beats are of PART and AGAIN alone", x.as(0, kind), 4);
                due.is("4, more is of AGAIN alone", x.take(0, kind, 0, 0, v), 1);
                due.is("4, more is of AGAIN alone", x.worth(0, 3), 1000);
            }
        }
        for (int v : any) {
            Desk x = new Desk();
            due.is("4, more is of AGAIN alone", x.take(0, PART, 3, 3, v), 1);
            due.is("4, more is of AGAIN alone", x.worth(0, 3), 1000);
        }
    }

    private static void takeAnew() {
        for (int kind = 0; kind < 5; kind++) {
            Desk x = new Desk();
            x.take(0, TAKE, 0, 0, 0);
            x.play(0, 400, 100, 7);
            for (int n = 0; n < 9; n++) {
                x.mark(0, 1, 0);
            }
            x.hand(0, 1, 30);
            x.lay(0);
            due.is("4, anew", x.take(0, kind, 1, 2, 0), 1);
            due.is("4, no samples", x.sample(0, -1), 0);
            due.is("4, no frames", x.level(0, 0), Due.BEYOND);
            due.is("4, not laid", x.frame(0, 1), Due.NONE);
            due.is("4, no marks", x.worth(0, 1), 1000);
            due.is("4, no marks", x.mark(0, 1, 0), kind == 4 ? Due.KIND : 1);
            due.is("4, 400 may come", x.play(0, 400, 0, 0), 400);
            int beats = kind == 1 || kind == 2 ? 2 : 4;
            due.is("4, no hands", x.lay(0), 100 * beats);
            due.is("4, no hands", x.frame(0, 1), beats == 2 ? 0 : 3);
        }
    }

    private static void tearAndTakeAnew() {
        for (int t : new int[] {0, 5}) {
            Desk x = new Desk();
            x.take(t, TAKE, 0, 0, 0);
            x.play(t, 400, 100, 7);
            x.mark(t, 0, 0);
            x.keep(0, t);
            due.is("5, MISSING from now on", x.tear(t), 1);
            due.is("5, MISSING from now on", x.sample(t, -1), Due.MISSING);
            due.is("5, MISSING from now on", x.lay(t), Due.MISSING);
            due.is("5, MISSING from now on", x.play(t, 0, 0, 0), Due.MISSING);
            due.is("5, it stays kept", x.keep(0, t), t);
            x.score(4);
            due.is("5, MISSING, another score too", x.sample(t, -1), Due.MISSING);
            x.take(t, TAKE, 0, 0, 0);
            due.is("5, anew: no samples", x.sample(t, -1), 0);
            due.is("5, anew: no marks", x.worth(t, 0), 1000);
        }
    }

    private static void playNone() {
        Desk x = new Desk();
        x.take(0, TAKE, 0, 0, 0);
        due.is("6, how many it has: n 0 of none", x.play(0, 0, 100, 1), 0);
        x.play(0, 400, 3, 1);
        due.is("6, how many it has: n 0 of 400", x.play(0, 0, 0, 1), 400);
    }

    private static void playUpTo400() {
        int[] had = {0, 1, 399};
        for (int many : had) {
            Desk x = new Desk();
            x.take(0, TAKE, 0, 0, 0);
            x.play(0, many, 0, 0);
            due.is("6, 401", x.play(0, 401 - many, 100, 1), Due.FULL);
            due.is("6, none of them came", x.sample(0, -1), many);
            due.is("6, 400", x.play(0, 400 - many, 100, 1), 400);
            due.is("6, none more", x.play(0, 1, 100, 1), Due.FULL);
        }
    }

    /** The document's row by numbers that can't wrap around: what is left of each by 2 to the 32nd. */
    private static void playWrapsAround() {
        int[] seeds = {0, -1, 1, LOW, HIGH, 1103515245, -12345};
        for (int seed : seeds) {
            Desk x = new Desk();
            x.take(0, TAKE, 0, 0, 0);
            int i = 0;
            for (int g : new int[] {0, 1, 99, 100}) {
                x.play(0, 80, g, seed);
                long row = Math.floorMod((long) seed, 1L << 32);
                for (int n = 0; n < 80; n++) {
                    row = Math.floorMod(1103515245L * row + 12345L, 1L << 32);
                    int sound = (int) (row / 65536 % (2 * g + 1)) - g;
                    due.is("6, an int, its highest 16 bits, g " + g + ", seed " + seed, x.sample(0, i), sound);
                    i++;
                }
            }
        }
    }

    private static void copyNone() {
        Desk x = new Desk();
        x.take(0, TAKE, 0, 0, 0);
        x.take(1, TAKE, 0, 0, 0);
        due.is("7, none of none", x.copy(0, 0, 0, 1, 100), 0);
        x.play(0, 400, 100, 1);
        due.is("7, none", x.copy(0, 0, 0, 1, 400), 0);
        due.is("7, none from the last one on", x.copy(0, 399, 0, 1, 100), 0);
        due.is("7, none to one that is full", x.copy(1, 0, 0, 0, 100), 400);
    }

    private static void copyAll() {
        Desk x = new Desk();
        x.take(0, TAKE, 0, 0, 0);
        x.take(5, TAKE, 0, 0, 0);
        x.play(0, 400, 100, 1);
        due.is("7, the first one", x.copy(0, 0, 1, 5, 100), 1);
        due.is("7, the last one", x.copy(0, 399, 1, 5, 100), 2);
        due.is("7, the first one", x.sample(5, 0), x.sample(0, 0));
        due.is("7, the last one", x.sample(5, 1), x.sample(0, 399));
        due.is("7, 401", x.copy(0, 0, 399, 5, 100), Due.FULL);
        due.is("7, none of them came", x.sample(5, -1), 2);
        due.is("7, 400", x.copy(0, 1, 398, 5, 100), 400);
        for (int i = 2; i < 160; i++) {
            due.is("7, each of them", x.sample(5, i), x.sample(0, i - 1));
        }
        due.is("7, the last of them", x.sample(5, 399), x.sample(0, 398));
        due.is("7, s has its own", x.sample(0, -1), 400);
        x.take(5, TAKE, 0, 0, 0);
        due.is("7, all 400", x.copy(0, 0, 400, 5, 100), 400);
        due.is("7, all 400", x.sample(5, 399), x.sample(0, 399));
    }

    private static void copyCuts() {
        int[] sounds = {100, -100, 25, -25, 26, -26, 99, -99, 1, -1, 0};
        int[] nums = {-400, -101, -100, -99, -1, 0, 1, 99, 100, 101, 399, 400};
        for (int num : nums) {
            Desk x = new Desk();
            x.take(0, TAKE, 0, 0, 0);
            x.take(1, TAKE, 0, 0, 0);
            x.play(0, sounds.length, 0, 0);
            for (int i = 0; i < sounds.length; i++) {
                x.put(0, i, sounds[i]);
            }
            due.is("7, num " + num, x.copy(0, 0, sounds.length, 1, num), sounds.length);
            for (int i = 0; i < sounds.length; i++) {
                int size = Math.min(100, Math.abs(sounds[i]) * Math.abs(num) / 100);
                int sound = Integer.signum(sounds[i]) * Integer.signum(num) * size;
                due.is("7, at most 100, at least -100: " + sounds[i] + " times " + num, x.sample(1, i), sound);
            }
        }
    }

    private static void copyOfItself() {
        Desk x = new Desk();
        x.take(0, TAKE, 0, 0, 0);
        x.play(0, 200, 100, 1);
        x.lay(0);
        due.is("7, all of itself", x.copy(0, 0, 200, 0, -100), 400);
        for (int i = 0; i < 100; i++) {
            due.is("7, as if taken away first", x.sample(0, 200 + i), -x.sample(0, i));
        }
        due.is("7, as if taken away first: the last one", x.sample(0, 399), -x.sample(0, 199));
        due.is("7, not laid behind it", x.frame(0, 0), Due.NONE);
    }

    private static void putAtTheEnds() {
        for (int many : new int[] {1, 2, 400}) {
            for (int v : new int[] {-100, 0, 100}) {
                Desk x = new Desk();
                x.take(0, TAKE, 0, 0, 0);
                x.play(0, many, 50, 1);
                due.is("8, the first sample", x.put(0, 0, v), 1);
                due.is("8, the first sample", x.sample(0, 0), v);
                due.is("8, the last sample", x.put(0, many - 1, v), 1);
                due.is("8, the last sample", x.sample(0, many - 1), v);
                due.is("8, one behind it", x.put(0, many, v), Due.BEYOND);
                due.is("8, no more than it had", x.sample(0, -1), many);
            }
        }
    }

    private static void sampleMinusOne() {
        Desk x = new Desk();
        x.take(0, TAKE, 0, 0, 0);
        due.is("9, how many it has, if i is -1: none", x.sample(0, -1), 0);
        x.play(0, 1, 0, 0);
        due.is("9, how many it has, if i is -1: one", x.sample(0, -1), 1);
        due.is("9, the first and only one", x.sample(0, 0), 0);
        due.is("9, none behind it", x.sample(0, 1), Due.BEYOND);
        x.play(0, 399, 0, 0);
        due.is("9, how many it has, if i is -1: 400", x.sample(0, -1), 400);
        due.is("9, the last one", x.sample(0, 399), 0);
    }

    private static void asOfAllKinds() {
        int[][] under = {{0}, {0, 1}, {0, 1, 2}, {0, 3}, {0, 3, 4}};
        for (int kind = 0; kind < 5; kind++) {
            Desk x = new Desk();
            x.take(0, kind, 3, 3, 0);
            for (int above : under[kind]) {
                due.is("10, kind " + kind + " as " + above, x.as(0, above), kind == 1 || kind == 2 ? 1 : 4);
            }
        }
    }

    private static void handTakenOff() {
        Desk x = new Desk();
        x.take(0, TAKE, 0, 0, 0);
        due.is("12, -1 where no hand and no frame is", x.hand(0, 0, -1), 1);
        x.play(0, 400, 0, 0);
        due.is("12, the first frame", x.hand(0, 0, 0), 1);
        due.is("12, the last frame", x.hand(0, 3, 39), 1);
        due.is("12, both are kept", x.lay(0), 400 + 600);
        due.is("12, -1: takes its hand off", x.hand(0, 3, -1), 1);
        due.is("12, another hand stays", x.lay(0), 400);
        x.hand(0, 0, 5);
        x.hand(0, 0, 6);
        x.lay(0);
        due.is("12, a hand's second place", x.frame(0, 0), 6);
        due.is("12, -1: takes its hand off", x.hand(0, 0, -1), 1);
        due.is("12, -1: once more", x.hand(0, 0, -1), 1);
        x.lay(0);
        due.is("12, no hand", x.frame(0, 0), 0);
    }

    private static void layLeavesWhatWas() {
        Desk x = new Desk();
        for (int t = 0; t < 2; t++) {
            x.take(t, TAKE, 0, 0, 0);
            x.play(t, 40, 0, 0);
            x.lay(t);
        }
        x.hand(1, 3, 0);
        x.best(0);
        due.is("13, BARRED", x.lay(1), Due.BARRED);
        due.is("13, nothing is laid then", x.frame(1, 0), Due.NONE);
        due.is("13, what was stays", x.frame(0, 3), 3);
        due.is("13, the way stays", x.way(3), 0);
        x.hand(1, 3, -1);
        due.is("13, laid again", x.lay(1), 520);
        due.is("13, laid again", x.frame(1, 3), 3);
    }

    private static void markUpToNine() {
        Desk x = new Desk();
        x.take(0, PART, 0, 3, 0);
        for (int what = 0; what < 4; what++) {
            for (int n = 1; n <= 9; n++) {
                due.is("15, how many such marks are there", x.mark(0, 3, what), n);
            }
            int worth = x.worth(0, 3);
            due.is("15, FULL: 9 such are there", x.mark(0, 3, what), Due.FULL);
            due.is("15, no tenth", x.worth(0, 3), worth);
            due.is("15, another beat", x.mark(0, 0, what), 1);
        }
    }

    private static void setTellsWhatItWas() {
        int[] first = {8, 3, 200, 4};
        int[] least = {1, 0, 0, 0};
        int[] most = {20, 9, 1000, 9};
        for (int what = 0; what < 4; what++) {
            Desk x = new Desk();
            due.is("17, the least, what it was at first", x.set(what, least[what]), first[what]);
            due.is("17, the most", x.set(what, most[what]), least[what]);
            due.is("17, the same", x.set(what, most[what]), most[what]);
            for (int other = 0; other < 4; other++) {
                due.is("17, another stays", x.set(other, 1), other == what ? most[what] : first[other]);
            }
        }
    }

    private static void barIsNewOrNot() {
        for (int beats : new int[] {2, 4, 24}) {
            for (int b : new int[] {1, beats - 1}) {
                Desk x = new Desk();
                x.score(beats);
                due.is("21, may be again: not new", x.bar(b, false), 0);
                due.is("21, on: new", x.bar(b, true), 1);
                due.is("21, on: not new", x.bar(b, true), 0);
                for (int other = 1; other < beats; other++) {
                    due.is("21, other beats have none", x.bar(other, false), other == b ? 1 : 0);
                }
            }
        }
    }

    private static void keepTellsWhatItHad() {
        for (int b : new int[] {0, 23}) {
            Desk x = new Desk();
            x.score(24);
            int had = -1;
            for (int t : new int[] {0, 5, 5, -1, -1, 3, 0, -1}) {
                due.is("22, the one it had (-1)", x.keep(b, t), had);
                had = t;
            }
            due.is("22, another beat has none", x.keep(23 - b, 2), -1);
        }
    }

    private static int answer(Twin.Act act) {
        Desk x = new Desk();
        BusyDesk.make(x);
        return act.on(x);
    }

    private static void askingLeavesAll() {
        Twin.Act[] asks = {
            x -> x.sample(0, -1), x -> x.sample(0, 94), x -> x.as(4, 3), x -> x.level(0, 9), x -> x.frame(2, 4),
            x -> x.worth(3, 3), x -> x.like(0, 1, 2, 20), x -> x.shift(1, 2, 3), x -> x.cost(1, 2, 3), x -> x.way(4),
            Desk::joins, Desk::made, x -> x.heard(BusyDesk.MADE - 1), x -> x.from(0, 3), x -> x.found(Due.BARRED),
        };
        for (int n = 0; n < asks.length; n++) {
            twin.leaves("asking changes nothing: " + n, BusyDesk::make, asks[n], answer(asks[n]), "");
        }
        twin.leaves("30, one more number waits, no more", BusyDesk::make, x -> x.tell(2), 3, Twin.WAITING);
        twin.leaves("31, none wait then, no more", BusyDesk::make, Desk::check, 3, Twin.WAITING);
        int fifth = answer(x -> x.best(4));
        twin.leaves("23, THE WAY then, no more", BusyDesk::make, x -> x.best(4), fifth, Twin.THE_WAY);
        int few = answer(x -> x.few(1));
        twin.leaves("24, THE WAY then, no more", BusyDesk::make, x -> x.few(1), few, Twin.THE_WAY);
    }
}
