/**
 * Each sentence of promises 12 to 32 that names a finding: it is told, just at its edge and far behind it, in the
 * order in which it is asked, and nothing but what found() tells is changed.
 */
final class RefusedJoinsTest {
    private static final int LOW = Integer.MIN_VALUE;
    private static final int HIGH = Integer.MAX_VALUE;
    private static final int[] NO_TAKES = {-1, 6, LOW, HIGH};
    private static final Due due = new Due();
    private static final Twin twin = new Twin(due);

    private interface JoinCall {
        int on(Desk x, int s, int t, int b);
    }

    public static void main(String[] args) {
        hand();
        lay();
        frame();
        mark();
        worth();
        set();
        like();
        joinCall("18, like", (x, s, t, b) -> x.like(s, t, b, 0));
        joinCall("19, shift", (x, s, t, b) -> x.shift(s, t, b));
        joinCall("20, cost", (x, s, t, b) -> x.cost(s, t, b));
        bar();
        keep();
        best();
        few();
        noWay();
        way();
        made();
        tell();
        found();
        due.end();
    }

    private static void no(String sentence, Twin.Act act, int finding) {
        twin.refused(sentence, BusyDesk::make, act, finding);
    }

    private static void noBehind(String sentence, Twin.Acts more, Twin.Act act, int finding) {
        twin.refused(sentence, x -> {
            BusyDesk.make(x);
            more.on(x);
        }, act, finding);
    }

    private static void hand() {
        for (int t : NO_TAKES) {
            no("12, BEYOND: there is no such take: " + t, x -> x.hand(t, 0, 0), Due.BEYOND);
        }
        no("12, MISSING", x -> x.hand(5, 0, -1), Due.MISSING);
        no("12, MISSING ahead of BEYOND", x -> x.hand(5, -1, -2), Due.MISSING);
        for (int b : new int[] {-1, BusyDesk.BEATS, LOW, HIGH}) {
            no("12, BEYOND: it hasn't that beat: " + b, x -> x.hand(0, b, 0), Due.BEYOND);
            no("12, BEYOND: it hasn't that beat, a hand off: " + b, x -> x.hand(0, b, -1), Due.BEYOND);
        }
        no("12, BEYOND: behind a part's last beat", x -> x.hand(1, 3, 0), Due.BEYOND);
        no("12, BEYOND: ahead of a part's first beat", x -> x.hand(2, 1, 0), Due.BEYOND);
        for (int f : new int[] {-2, LOW}) {
            no("12, BEYOND: f is below -1: " + f, x -> x.hand(0, 1, f), Due.BEYOND);
        }
        for (int f : new int[] {BusyDesk.FRAMES[0], 40, HIGH}) {
            no("12, BEYOND: there is no such frame: " + f, x -> x.hand(0, 1, f), Due.BEYOND);
        }
        noBehind("12, BEYOND: it has no frames", x -> x.take(5, 0, 0, 0, 0), x -> x.hand(5, 0, 0), Due.BEYOND);
        noBehind("12, BEYOND: 40 frames", x -> x.play(0, 305, 9, 9), x -> x.hand(0, 4, 40), Due.BEYOND);
    }

    private static void lay() {
        for (int t : NO_TAKES) {
            no("13, BEYOND: there is no such take: " + t, x -> x.lay(t), Due.BEYOND);
        }
        no("13, MISSING", x -> x.lay(5), Due.MISSING);
        noBehind("13, BARRED: no frames", x -> x.take(5, 1, 0, 0, 0), x -> x.lay(5), Due.BARRED);
        noBehind("13, BARRED: four frames for five beats", x -> {
            x.take(5, 0, 0, 0, 0);
            x.play(5, 40, 9, 9);
            x.best(1);
        }, x -> x.lay(5), Due.BARRED);
        noBehind("13, BARRED: hands at one frame", x -> x.hand(0, 2, 3), x -> x.lay(0), Due.BARRED);
        noBehind("13, BARRED: hands that fall", x -> x.hand(0, 2, 2), x -> x.lay(0), Due.BARRED);
        noBehind("13, BARRED: no room between hands", x -> x.hand(0, 3, 4), x -> x.lay(0), Due.BARRED);
        noBehind("13, BARRED: no room ahead of a hand", x -> x.hand(1, 1, 0), x -> x.lay(1), Due.BARRED);
        noBehind("13, BARRED: no room behind a hand", x -> x.hand(1, 2, 1), x -> x.lay(1), Due.BARRED);
    }

    private static void frame() {
        for (int t : NO_TAKES) {
            no("14, BEYOND: there is no such take: " + t, x -> x.frame(t, 0), Due.BEYOND);
        }
        no("14, MISSING", x -> x.frame(5, 0), Due.MISSING);
        no("14, MISSING ahead of BEYOND", x -> x.frame(5, -1), Due.MISSING);
        noBehind("14, NONE: it isn't LAID", x -> x.put(0, 0, 1), x -> x.frame(0, 0), Due.NONE);
        noBehind("14, NONE ahead of BEYOND", x -> x.put(0, 0, 1), x -> x.frame(0, -1), Due.NONE);
        for (int b : new int[] {-1, BusyDesk.BEATS, LOW, HIGH}) {
            no("14, BEYOND: it hasn't that beat: " + b, x -> x.frame(0, b), Due.BEYOND);
        }
        no("14, BEYOND: behind a part's last beat", x -> x.frame(1, 3), Due.BEYOND);
        no("14, BEYOND: ahead of a part's first beat", x -> x.frame(2, 1), Due.BEYOND);
    }

    private static void mark() {
        for (int t : NO_TAKES) {
            no("15, BEYOND: there is no such take: " + t, x -> x.mark(t, 0, 0), Due.BEYOND);
        }
        no("15, MISSING", x -> x.mark(5, 0, 0), Due.MISSING);
        no("15, MISSING ahead of BEYOND", x -> x.mark(5, -1, 4), Due.MISSING);
        no("15, KIND: it is a ROOM", x -> x.mark(4, 0, 3), Due.KIND);
        no("15, KIND ahead of BEYOND", x -> x.mark(4, -1, 4), Due.KIND);
        for (int b : new int[] {-1, BusyDesk.BEATS, LOW, HIGH}) {
            no("15, BEYOND: it hasn't that beat: " + b, x -> x.mark(0, b, 0), Due.BEYOND);
        }
        no("15, BEYOND: behind a part's last beat", x -> x.mark(1, 3, 0), Due.BEYOND);
        no("15, BEYOND: ahead of a part's first beat", x -> x.mark(2, 1, 0), Due.BEYOND);
        for (int what : new int[] {-1, 4, LOW, HIGH}) {
            no("15, BEYOND: another mark: " + what, x -> x.mark(0, 1, what), Due.BEYOND);
        }
        for (int what = 0; what < 4; what++) {
            int full = what;
            noBehind("15, FULL: 9 such are there: " + what, x -> {
                for (int n = 0; n < 9; n++) {
                    x.mark(0, 1, full);
                }
                x.best(2);
            }, x -> x.mark(0, 1, full), Due.FULL);
        }
    }

    private static void worth() {
        for (int t : NO_TAKES) {
            no("16, BEYOND: there is no such take: " + t, x -> x.worth(t, 0), Due.BEYOND);
        }
        no("16, MISSING", x -> x.worth(5, 0), Due.MISSING);
        no("16, MISSING ahead of BEYOND", x -> x.worth(5, -1), Due.MISSING);
        for (int b : new int[] {-1, BusyDesk.BEATS, LOW, HIGH}) {
            no("16, BEYOND: it hasn't that beat: " + b, x -> x.worth(0, b), Due.BEYOND);
        }
        no("16, BEYOND: behind a part's last beat", x -> x.worth(1, 3), Due.BEYOND);
        no("16, BEYOND: ahead of a part's first beat", x -> x.worth(2, 1), Due.BEYOND);
    }

    private static void set() {
        for (int what : new int[] {-1, 4, LOW, HIGH}) {
            no("17, BEYOND: another what: " + what, x -> x.set(what, 1), Due.BEYOND);
        }
        int[][] wrong = {{0, 21, -1, LOW, HIGH}, {-1, 10, LOW, HIGH}, {-1, 1001, LOW, HIGH}, {-1, 10, LOW, HIGH}};
        String[] names = {"W isn't 1 .. 20", "D isn't 0 .. 9", "the constant isn't 0 .. 1000", "R isn't 0 .. 9"};
        for (int what = 0; what < 4; what++) {
            int which = what;
            for (int v : wrong[what]) {
                no("17, BEYOND: " + names[what] + ": " + v, x -> x.set(which, v), Due.BEYOND);
            }
        }
    }

    private static void like() {
        for (int d : new int[] {-21, 21, LOW, HIGH}) {
            no("18, BEYOND: d isn't -20 .. 20: " + d, x -> x.like(0, 1, 1, d), Due.BEYOND);
            no("18, BEYOND ahead of MISSING: " + d, x -> x.like(0, 5, 1, d), Due.BEYOND);
            noBehind("18, BEYOND ahead of NONE: " + d, x -> x.put(0, 0, 1), x -> x.like(0, 1, 1, d), Due.BEYOND);
        }
    }

    private static void joinCall(String name, JoinCall call) {
        for (int t : NO_TAKES) {
            no(name + ", BEYOND: there is no such take s: " + t, x -> call.on(x, t, 0, 1), Due.BEYOND);
            no(name + ", BEYOND: there is no such take t: " + t, x -> call.on(x, 0, t, 1), Due.BEYOND);
            no(name + ", BEYOND ahead of MISSING: " + t, x -> call.on(x, 5, t, 1), Due.BEYOND);
        }
        no(name + ", MISSING: s is", x -> call.on(x, 5, 0, 1), Due.MISSING);
        no(name + ", MISSING: t is", x -> call.on(x, 0, 5, 1), Due.MISSING);
        noBehind(name + ", MISSING ahead of NONE", x -> x.put(0, 0, 1), x -> call.on(x, 0, 5, -1), Due.MISSING);
        noBehind(name + ", NONE: s isn't LAID", x -> x.put(0, 0, 1), x -> call.on(x, 0, 3, 1), Due.NONE);
        noBehind(name + ", NONE: t isn't LAID", x -> x.put(3, 0, 1), x -> call.on(x, 0, 3, 1), Due.NONE);
        noBehind(name + ", NONE ahead of BEYOND", x -> x.put(3, 0, 1), x -> call.on(x, 0, 3, -1), Due.NONE);
        for (int b : new int[] {-1, BusyDesk.BEATS, LOW, HIGH}) {
            no(name + ", BEYOND: t hasn't beat " + b, x -> call.on(x, 0, 3, b), Due.BEYOND);
        }
        no(name + ", BEYOND: t has just the one ahead", x -> call.on(x, 0, 1, 3), Due.BEYOND);
        no(name + ", BEYOND: t has just the one behind", x -> call.on(x, 0, 2, 1), Due.BEYOND);
        no(name + ", BEYOND: s has neither, it ends ahead", x -> call.on(x, 1, 2, 4), Due.BEYOND);
        no(name + ", BEYOND: s has neither, it begins behind", x -> call.on(x, 2, 0, 1), Due.BEYOND);
        no(name + ", BEYOND: s has neither, beat 0", x -> call.on(x, 2, 1, 0), Due.BEYOND);
    }

    private static void bar() {
        for (int b : new int[] {0, BusyDesk.BEATS, -1, LOW, HIGH}) {
            no("21, BEYOND: b isn't 1 .. B - 1, on: " + b, x -> x.bar(b, true), Due.BEYOND);
            no("21, BEYOND: b isn't 1 .. B - 1, off: " + b, x -> x.bar(b, false), Due.BEYOND);
        }
        twin.refused("21, BEYOND: of one beat none", x -> x.score(1), x -> x.bar(1, true), Due.BEYOND);
        twin.refused("21, BEYOND: beat 0 of one", x -> x.score(1), x -> x.bar(0, true), Due.BEYOND);
        twin.refused("21, BEYOND: beat 24 of 24", x -> x.score(24), x -> x.bar(24, true), Due.BEYOND);
    }

    private static void keep() {
        for (int b : new int[] {-1, BusyDesk.BEATS, LOW, HIGH}) {
            no("22, BEYOND: there is no such beat: " + b, x -> x.keep(b, 0), Due.BEYOND);
            no("22, BEYOND: there is no such beat, any: " + b, x -> x.keep(b, -1), Due.BEYOND);
        }
        for (int t : new int[] {-2, 6, LOW, HIGH}) {
            no("22, BEYOND: t isn't -1 .. 5: " + t, x -> x.keep(2, t), Due.BEYOND);
        }
        twin.refused("22, BEYOND: beat 24 of 24", x -> x.score(24), x -> x.keep(24, 0), Due.BEYOND);
    }

    private static void best() {
        for (int k : new int[] {-1, 20, LOW, HIGH}) {
            no("23, BEYOND: k isn't 0 .. 19: " + k, x -> x.best(k), Due.BEYOND);
        }
        Twin.Acts fourWays = x -> {
            x.keep(2, 3);
            x.best(3);
        };
        due.holds("23: a fourth way", answerBehind(fourWays, x -> x.best(3)) > Due.BEYOND);
        noBehind("23, NONE: there are four", fourWays, x -> x.best(4), Due.NONE);
        noBehind("23, NONE: there are far fewer", fourWays, x -> x.best(19), Due.NONE);
        noBehind("23, NONE: no way at all", x -> x.keep(2, 5), x -> x.best(0), Due.NONE);
        noBehind("23, BEYOND ahead of NONE", x -> x.keep(2, 5), x -> x.best(20), Due.BEYOND);
    }

    private static int answerBehind(Twin.Acts more, Twin.Act act) {
        Desk x = new Desk();
        BusyDesk.make(x);
        more.on(x);
        return act.on(x);
    }

    private static void few() {
        for (int j : new int[] {-1, LOW}) {
            no("24, BEYOND: j is below 0: " + j, x -> x.few(j), Due.BEYOND);
            noBehind("24, BEYOND ahead of NONE: " + j, x -> x.keep(2, 5), x -> x.few(j), Due.BEYOND);
        }
        no("24, NONE: not without a join", x -> x.few(0), Due.NONE);
        noBehind("24, NONE: not with one join", x -> {
            x.keep(2, 3);
            x.best(0);
        }, x -> x.few(1), Due.NONE);
        noBehind("24, NONE: no way at all", x -> x.keep(2, 5), x -> x.few(HIGH), Due.NONE);
    }

    private static void noWay() {
        Twin.Acts gone = x -> x.keep(3, -1);
        noBehind("25, NONE: there is none", gone, x -> x.way(0), Due.NONE);
        noBehind("25, NONE ahead of BEYOND", gone, x -> x.way(-1), Due.NONE);
        noBehind("26, NONE", gone, x -> x.joins(), Due.NONE);
        noBehind("27, NONE", gone, x -> x.made(), Due.NONE);
        noBehind("28, NONE", gone, x -> x.heard(0), Due.NONE);
        noBehind("28, NONE ahead of BEYOND", gone, x -> x.heard(-1), Due.NONE);
        noBehind("29, NONE", gone, x -> x.from(0, 0), Due.NONE);
        noBehind("29, NONE ahead of BEYOND", gone, x -> x.from(-1, 4), Due.NONE);
        Twin.Acts nothing = x -> { };
        twin.refused("25, NONE: a new desk", nothing, x -> x.way(0), Due.NONE);
        twin.refused("26, NONE: a new desk", nothing, x -> x.joins(), Due.NONE);
        twin.refused("27, NONE: a new desk", nothing, x -> x.made(), Due.NONE);
        twin.refused("28, NONE: a new desk", nothing, x -> x.heard(0), Due.NONE);
        twin.refused("29, NONE: a new desk", nothing, x -> x.from(0, 0), Due.NONE);
    }

    private static void way() {
        for (int b : new int[] {-1, BusyDesk.BEATS, LOW, HIGH}) {
            no("25, BEYOND: there is no such beat: " + b, x -> x.way(b), Due.BEYOND);
        }
    }

    private static void made() {
        due.is("27: the busy desk", answerBehind(x -> { }, Desk::made), BusyDesk.MADE);
        for (int i : new int[] {-1, BusyDesk.MADE, LOW, HIGH}) {
            no("28, BEYOND: there is none such: " + i, x -> x.heard(i), Due.BEYOND);
            for (int what = 0; what < 4; what++) {
                int which = what;
                no("29, BEYOND: there is none such: " + i, x -> x.from(i, which), Due.BEYOND);
            }
        }
        for (int what : new int[] {-1, 4, LOW, HIGH}) {
            no("29, BEYOND: another what: " + what, x -> x.from(0, what), Due.BEYOND);
        }
    }

    private static void tell() {
        Twin.Acts full = x -> {
            for (int n = 2; n < 30; n++) {
                x.tell(n < BusyDesk.BEST.length ? BusyDesk.BEST[n] : n);
            }
        };
        due.is("31: a way, its value and more", answerBehind(full, Desk::check), 101);
        noBehind("30, FULL: 30 wait", full, x -> x.tell(0), Due.FULL);
        noBehind("30, FULL: 30 wait, any number", full, x -> x.tell(LOW), Due.FULL);
    }

    private static void found() {
        for (int finding : new int[] {-1000000, -1000008, 0, 1, -1, LOW, HIGH, LOW + 1000001}) {
            no("32, BEYOND: another number (counted, too): " + finding, x -> x.found(finding), Due.BEYOND);
        }
    }
}
