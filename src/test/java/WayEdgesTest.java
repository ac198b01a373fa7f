/** Promises 18 to 20 and 23 to 32: what they do at the edges that they name. Their findings are in RefusedJoinsTest. */
final class WayEdgesTest {
    private static final int LOW = Integer.MIN_VALUE;
    private static final int HIGH = Integer.MAX_VALUE;
    private static final int TAKE = 0;
    private static final int PART = 1;
    private static final int FREE = -1;
    private static final Due due = new Due();

    public static void main(String[] args) {
        joinsThatMayBeAsked();
        likeAtTheEdgesOfD();
        bestOfTwenty();
        bestOfNineteen();
        bestOfSix();
        fewAtItsEdges();
        fewAndBestOfAllTakes();
        wayAtItsEdges();
        wayIsGoneBehindEachAct();
        wayStaysBehindRefusedActs();
        refusedBestLeavesTheWay();
        heardAtBothEnds();
        tellUpToThirty();
        checkEachBeat();
        checkBars();
        checkKept();
        checkValue();
        checkMore();
        checkWithoutWays();
        foundOfEach();
        due.end();
    }

    /** Silent takes of so many frames as there are beats; a join of two of them costs 1200. */
    private static Desk silentTakes(int beats, int takes) {
        Desk x = new Desk();
        x.score(beats);
        for (int t = 0; t < takes; t++) {
            x.take(t, TAKE, 0, 0, 0);
            x.play(t, 10 * beats, 0, 0);
            x.lay(t);
        }
        return x;
    }

    private static void joinsThatMayBeAsked() {
        String sentence = "18 to 20, t has beat b, and s that or the one ahead of it";
        for (int first = 0; first < 4; first++) {
            for (int last = first; last < 4; last++) {
                Desk x = silentTakes(4, 1);
                x.take(1, PART, first, last, 0);
                x.play(1, 40, 0, 0);
                x.lay(1);
                for (int b = -1; b <= 4; b++) {
                    boolean whole = b >= 0 && b < 4;
                    boolean has = b >= first && b <= last;
                    boolean hasAhead = b - 1 >= first && b - 1 <= last;
                    due.is(sentence + ": t a part", x.like(0, 1, b, 0), has ? 0 : Due.BEYOND);
                    due.is(sentence + ": s a part", x.like(1, 0, b, 0), whole && (has || hasAhead) ? 0 : Due.BEYOND);
                    due.is(sentence + ": s a part", x.shift(1, 0, b), whole && (has || hasAhead) ? 0 : Due.BEYOND);
                    due.is(sentence + ": s a part", x.cost(1, 0, b), whole && (has || hasAhead) ? 1200 : Due.BEYOND);
                    due.is(sentence + ": one alone", x.cost(1, 1, b), has ? 1200 : Due.BEYOND);
                }
            }
        }
    }

    private static void likeAtTheEdgesOfD() {
        for (int d : new int[] {-20, 20}) {
            Desk x = silentTakes(4, 2);
            x.put(0, 20, 50);
            x.put(1, Math.min(39, 20 + d), 50);
            x.lay(0);
            x.lay(1);
            due.is("18, d -20 .. 20, whatever D is: " + d, x.like(0, 1, 2, d), d < 0 ? 1000 : 0);
            x.set(1, 0);
            due.is("18, d -20 .. 20, D 0: " + d, x.like(0, 1, 2, d), d < 0 ? 1000 : 0);
            due.is("18, one further: " + d, x.like(0, 1, 2, d + d / 20), Due.BEYOND);
        }
    }

    /** Takes of two beats: 5 of beat 0 by 4 of beat 1 are 20 ways, if none has both. */
    private static Desk parts(int ofBeat0, int ofBeat1) {
        Desk x = new Desk();
        x.score(2);
        for (int t = 0; t < ofBeat0 + ofBeat1; t++) {
            int b = t < ofBeat0 ? 0 : 1;
            x.take(t, PART, b, b, 0);
            x.play(t, 1, 0, 0);
            x.lay(t);
        }
        return x;
    }

    private static void bestOfTwenty() {
        Desk x = silentTakes(2, 6);
        for (int k = 0; k < 20; k++) {
            due.is("23, k 0 .. 19 of 36", x.best(k), k < 6 ? 2000 : 800);
            due.is("23, k 0 .. 19 of 36", x.way(0), k < 6 ? k : (k - 6) / 5);
        }
        due.is("23, no 21st may be asked", x.best(20), Due.BEYOND);
        due.is("23, the 20th stays", 10 * x.way(0) + x.way(1), 24);
    }

    private static void bestOfNineteen() {
        Desk x = silentTakes(2, 4);
        due.is("23, sixteen ways: the last one", x.best(15), 800);
        due.is("23, sixteen ways: the last one", x.way(0), 3);
        for (int k = 16; k < 20; k++) {
            due.is("23, there are not so many: " + k, x.best(k), Due.NONE);
        }
        x.take(4, PART, 0, 0, 0);
        x.play(4, 1, 0, 0);
        x.lay(4);
        due.is("23, twenty ways: the last one", x.best(19), 800);
        due.is("23, twenty ways: the last one", x.way(0), 4);
        due.is("23, twenty ways: the last one", x.way(1), 3);
        x.keep(0, 4);
        due.is("23, four ways: the last one", x.best(3), 800);
        due.is("23, four ways: no fifth", x.best(4), Due.NONE);
    }

    private static void bestOfSix() {
        Desk x = parts(3, 3);
        for (int k = 0; k < 9; k++) {
            due.is("23, parts of one beat each", x.best(k), 800);
            due.is("23, parts of one beat each", 10 * x.way(0) + x.way(1), 10 * (k / 3) + 3 + k % 3);
        }
        due.is("23, nine ways", x.best(9), Due.NONE);
        x = silentTakes(1, 6);
        due.is("23, one beat: six ways", x.best(5), 1000);
        due.is("23, one beat: six ways", x.way(0), 5);
        due.is("23, one beat: no seventh", x.best(6), Due.NONE);
    }

    private static void fewAtItsEdges() {
        Desk x = silentTakes(24, 2);
        for (int b = 0; b < 24; b++) {
            x.keep(b, b % 2);
        }
        for (int j : new int[] {0, 1, 22}) {
            due.is("24, NONE: fewer than are needed: " + j, x.few(j), Due.NONE);
        }
        for (int j : new int[] {23, 24, 25, HIGH}) {
            due.is("24, at most j: " + j, x.few(j), 24000 - 23 * 1200);
            due.is("24, at most j: " + j, x.joins(), 23);
        }
        x.keep(23, FREE);
        due.is("24, one less", x.few(22), 24000 - 22 * 1200);
        due.is("24, one less", x.joins(), 22);
        due.is("24, still too few", x.few(21), Due.NONE);
        x = silentTakes(1, 2);
        due.is("24, one beat", x.few(0), 1000);
        due.is("24, one beat", x.few(HIGH), 1000);
    }

    /** 24 beats with six takes in turn, from each of them on: all joins that can be, with none to spare. */
    private static void fewAndBestOfAllTakes() {
        for (int first = 0; first < 6; first++) {
            Desk x = silentTakes(24, 6);
            for (int b = 0; b < 24; b++) {
                x.keep(b, (first + b) % 6);
            }
            due.is("24, 23 joins from take " + first, x.few(23), 24000 - 23 * 1200);
            due.is("24, 23 joins: the last beat", x.way(23), (first + 23) % 6);
            due.is("24, 22 joins from take " + first, x.few(22), Due.NONE);
            due.is("23, 23 joins from take " + first, x.best(0), 24000 - 23 * 1200);
            due.is("23, one way alone", x.best(1), Due.NONE);
            x.keep(23, FREE);
            for (int k = 0; k < 6; k++) {
                due.is("23, six ways from take " + first, x.best(k), 24000 - (k == 0 ? 22 : 23) * 1200);
            }
            due.is("23, six ways: the last one", x.way(23), (first + 22) % 6 == 5 ? 4 : 5);
            due.is("23, no seventh", x.best(6), Due.NONE);
            due.is("24, 22 joins, the last beat free", x.few(22), 24000 - 22 * 1200);
        }
    }

    private static void wayAtItsEdges() {
        for (int beats : new int[] {1, 4, 24}) {
            Desk x = silentTakes(beats, 1);
            x.best(0);
            due.is("25, the first beat", x.way(0), 0);
            due.is("25, the last beat", x.way(beats - 1), 0);
            due.is("25, none behind it", x.way(beats), Due.BEYOND);
            due.is("25, none ahead", x.way(-1), Due.BEYOND);
        }
    }

    /** Each of the 13 acts, told such that nothing comes of it but that it is done. */
    private static Twin.Act[] acts() {
        return new Twin.Act[] {
            x -> x.score(4), x -> x.beat(3, 100, 3), x -> x.take(5, TAKE, 0, 0, 0), x -> x.tear(2),
            x -> x.play(2, 0, 0, 0), x -> x.copy(0, 0, 0, 2, 100), x -> x.put(2, 0, 0), x -> x.hand(2, 0, -1),
            x -> x.lay(2), x -> x.mark(2, 0, 3), x -> x.set(3, 4), x -> x.bar(1, false), x -> x.keep(0, -1),
        };
    }

    private static void wayIsGoneBehindEachAct() {
        Twin.Act[] acts = acts();
        Twin.Act[] finders = {x -> x.best(1), x -> x.few(0)};
        for (int n = 0; n < acts.length; n++) {
            for (Twin.Act finder : finders) {
                Desk x = silentTakes(4, 3);
                finder.on(x);
                due.holds("25, there is one, ahead of act " + n, x.way(0) >= 0);
                due.holds("25, act " + n + " is done", acts[n].on(x) > Due.BEYOND);
                due.is("25, NONE behind act " + n, x.way(0), Due.NONE);
                due.is("26, NONE behind act " + n, x.joins(), Due.NONE);
                due.is("27, NONE behind act " + n, x.made(), Due.NONE);
                due.is("28, NONE behind act " + n, x.heard(0), Due.NONE);
                due.is("29, NONE behind act " + n, x.from(0, 0), Due.NONE);
                x.lay(0);
                x.lay(1);
                due.holds("25, found anew behind act " + n, finder.on(x) > Due.BEYOND);
                due.holds("25, found anew behind act " + n, x.way(0) >= 0);
                due.is("26, found anew behind act " + n, x.joins(), 0);
            }
        }
    }

    private static void wayStaysBehindRefusedActs() {
        Twin.Act[] refused = {
            x -> x.score(0), x -> x.beat(4, 1, 1), x -> x.take(1, 5, 0, 0, 0), x -> x.tear(5), x -> x.play(1, -1, 0, 0),
            x -> x.copy(0, 41, 0, 1, 1), x -> x.put(1, 40, 0), x -> x.hand(1, 0, 4), x -> x.lay(5), x -> x.mark(1, 0, 4),
            x -> x.set(4, 0), x -> x.bar(0, true), x -> x.keep(0, 6), x -> x.best(16), x -> x.best(-1), x -> x.few(-1),
        };
        Desk x = silentTakes(4, 2);
        x.best(1);
        for (int n = 0; n < refused.length; n++) {
            due.holds("25, refused: " + n, refused[n].on(x) <= Due.BEYOND);
            due.is("25, it stays behind a finding: " + n, x.way(3), 1);
            due.is("27, it stays behind a finding: " + n, x.made(), 40);
        }
    }

    private static void refusedBestLeavesTheWay() {
        Desk x = silentTakes(4, 2);
        x.keep(0, 0);
        x.keep(3, 1);
        x.best(2);
        int first = x.way(1);
        int second = x.way(2);
        due.is("24, NONE", x.few(0), Due.NONE);
        due.is("24, NONE: THE WAY stays", x.way(1), first);
        due.is("23, NONE", x.best(19), Due.NONE);
        due.is("23, NONE: THE WAY stays", x.way(2), second);
        due.is("23, NONE: its joins stay", x.joins(), 1);
        due.is("24, another one", x.few(1), 2800);
        due.is("24, another one is THE WAY then", 10 * x.way(1) + x.way(2), 0);
    }

    private static void heardAtBothEnds() {
        for (int samples : new int[] {31, 400}) {
            Desk x = new Desk();
            x.take(0, TAKE, 0, 0, 0);
            x.play(0, samples, 0, 0);
            x.put(0, 0, 11);
            x.put(0, samples - 1, -12);
            x.hand(0, 0, 0);
            x.lay(0);
            x.best(0);
            due.is("28, the first one", x.heard(0), 11);
            due.is("28, the last one", x.heard(samples - 1), -12);
            due.is("28, none behind it", x.heard(samples), Due.BEYOND);
            due.is("28, none ahead", x.heard(-1), Due.BEYOND);
            int[] first = {0, 0, 0, 0};
            int[] last = {0, samples - 1, 0, 0};
            for (int what = 0; what < 4; what++) {
                due.is("29, the first one", x.from(0, what), first[what]);
                due.is("29, the last one", x.from(samples - 1, what), last[what]);
            }
        }
    }

    private static void tellUpToThirty() {
        Desk x = new Desk();
        int[] any = {LOW, HIGH, 0, -1, 6};
        for (int round = 0; round < 2; round++) {
            for (int n = 1; n <= 30; n++) {
                due.is("30, how many", x.tell(any[n % any.length]), n);
            }
            due.is("30, FULL: 30 wait", x.tell(0), Due.FULL);
            due.is("30, FULL: once more", x.tell(0), Due.FULL);
            due.is("31, none do then", x.check(), 1);
        }
        due.is("31, none do then", x.tell(0), 1);
        x = silentTakes(24, 1);
        for (int n = 0; n < 30; n++) {
            x.tell(n == 24 ? 24000 : n > 24 ? 7 : 0);
        }
        x.tell(7);
        due.is("31, thirty are told, five more than a way", x.check(), 101);
    }

    private static void checkIs(String sentence, Desk x, int answer, int... told) {
        for (int v : told) {
            x.tell(v);
        }
        due.is("31, " + sentence, x.check(), answer);
    }

    /** For each beat: a number that is no take, a take that is missing, isn't laid, hasn't it, or no number. */
    private static void checkEachBeat() {
        for (int b = 0; b < 4; b++) {
            Desk x = silentTakes(4, 1);
            x.take(1, TAKE, 0, 0, 0);
            x.play(1, 40, 0, 0);
            x.take(2, PART, b == 0 ? 1 : 0, b == 0 ? 3 : b - 1, 0);
            x.play(2, 40, 0, 0);
            x.lay(2);
            for (int wrong : new int[] {-1, 6, LOW, HIGH, 5, 1, 2}) {
                int[] told = {0, 0, 0, 0, 4000};
                told[b] = wrong;
                checkIs("1 and b, beat " + b + ": " + wrong, x, 1 + b, told);
                if (b < 3) {
                    told[3] = 9;
                    checkIs("1 and b for the first beat, beat " + b + ": " + wrong, x, 1 + b, told);
                }
            }
            checkIs("missing: so many numbers alone: " + b, x, 1 + b, new int[b]);
            checkIs("all of them", x, 0, 0, 0, 0, 0, 4000);
        }
    }

    private static void checkBars() {
        for (int b = 1; b < 4; b++) {
            Desk x = silentTakes(4, 2);
            x.bar(b, true);
            int[] told = {0, 0, 0, 0, 2800};
            for (int i = b; i < 4; i++) {
                told[i] = 1;
            }
            checkIs("makes a join where it is barred: " + b, x, 1 + b, told);
            x.bar(b, false);
            checkIs("makes a join where it is not barred: " + b, x, 0, told);
            x.bar(b, true);
            checkIs("makes no join where it is barred: " + b, x, 0, 1, 1, 1, 1, 4000);
        }
    }

    private static void checkKept() {
        for (int b = 0; b < 4; b++) {
            Desk x = silentTakes(4, 2);
            x.keep(b, 1);
            checkIs("isn't the kept one: " + b, x, 1 + b, 0, 0, 0, 0, 4000);
            checkIs("is the kept one: " + b, x, 0, 1, 1, 1, 1, 4000);
            x.keep(b, 5);
            checkIs("isn't the kept one, which is missing: " + b, x, 1 + b, 1, 1, 1, 1, 4000);
            x.keep(b, FREE);
            checkIs("any: " + b, x, 0, 0, 0, 0, 0, 4000);
        }
    }

    private static void checkValue() {
        Desk x = silentTakes(4, 2);
        checkIs("the VALUE is missing", x, 100, 0, 0, 0, 0);
        for (int value : new int[] {3999, 4001, 0, -4000, LOW, HIGH, Due.NONE}) {
            checkIs("the VALUE is another one: " + value, x, 100, 0, 0, 0, 0, value);
        }
        checkIs("has that", x, 0, 0, 0, 0, 0, 4000);
        checkIs("has that, with three joins", x, 0, 0, 1, 0, 1, 4000 - 3600);
        checkIs("another one, with three joins", x, 100, 0, 1, 0, 1, 4000);
        for (int n = 0; n < 36; n++) {
            x.mark(0, n % 4, 0);
        }
        checkIs("a VALUE below 0", x, 0, 0, 0, 0, 0, 4000 - 10800);
        x = silentTakes(1, 1);
        checkIs("one beat", x, 0, 0, 1000);
        checkIs("one beat, no VALUE", x, 100, 0);
        checkIs("one beat, nothing", x, 1);
        checkIs("one beat, more", x, 101, 0, 1000, 0);
    }

    private static void checkMore() {
        Desk x = silentTakes(4, 1);
        checkIs("more were told, one", x, 101, 0, 0, 0, 0, 4000, 4000);
        checkIs("more were told, another VALUE", x, 100, 0, 0, 0, 0, 3999, 4000);
        checkIs("more were told, a wrong beat", x, 4, 0, 0, 0, 1, 4000, 4000);
        x = silentTakes(24, 1);
        int[] told = new int[25];
        told[24] = 24000;
        checkIs("24 beats", x, 0, told);
        told[23] = 1;
        checkIs("24 beats, the last one", x, 24, told);
        told[23] = 0;
        told[24] = 23999;
        checkIs("24 beats, another VALUE", x, 100, told);
        checkIs("24 beats, none", x, 100, new int[24]);
        checkIs("23 beats of 24", x, 24, new int[23]);
    }

    private static void checkWithoutWays() {
        Desk x = new Desk();
        checkIs("a new desk", x, 1, 0, 0, 0, 0, 4000);
        checkIs("a new desk, nothing told", x, 1);
        x = silentTakes(4, 1);
        x.tell(0);
        x.tell(0);
        x.score(2);
        x.lay(0);
        checkIs("numbers that waited, of another score", x, 0, 2000);
    }

    private static void foundOfEach() {
        Desk x = new Desk();
        Twin.Act[] acts = {
            d -> d.score(0), d -> d.tear(0), d -> d.as(1, 1), d -> d.play(1, -1, 0, 0), d -> d.play(1, 401, 0, 0),
            Desk::joins, d -> d.lay(1),
        };
        x.take(1, TAKE, 0, 0, 0);
        for (int n = 0; n < 7; n++) {
            int finding = Due.BEYOND - n;
            for (int times = 0; times < 3; times++) {
                due.is("32, " + finding, x.found(finding), times);
                due.is("32, an act that answers it", acts[n].on(x), finding);
            }
        }
        for (int n = 0; n < 7; n++) {
            due.is("32, each counted by itself", x.found(Due.BEYOND - n), 3);
        }
        due.is("32, another number", x.found(Due.BEYOND + 1), Due.BEYOND);
        due.is("32, counted, too", x.found(Due.BEYOND), 4);
        due.is("32, another number", x.found(Due.BARRED - 1), Due.BEYOND);
        due.is("32, counted, too", x.found(Due.BEYOND), 5);
        due.is("32, asking is not counted", x.found(Due.BEYOND), 5);
    }
}
