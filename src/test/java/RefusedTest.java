/**
 * Each sentence of promises 2 to 11 that names a finding: it is told, just at its edge and far behind it, in the
 * order in which it is asked, and nothing but what found() tells is changed.
 */
final class RefusedTest {
    private static final int LOW = Integer.MIN_VALUE;
    private static final int HIGH = Integer.MAX_VALUE;
    private static final Due due = new Due();
    private static final Twin twin = new Twin(due);

    public static void main(String[] args) {
        busyDeskIsBusy();
        score();
        beat();
        take();
        tear();
        play();
        playOrder();
        copyOfWhat();
        copySizes();
        copyOrder();
        put();
        sample();
        as();
        level();
        due.end();
    }

    private static void no(String sentence, Twin.Act act, int finding) {
        twin.refused(sentence, BusyDesk::make, act, finding);
    }

    private static void noBehind(String sentence, Twin.Acts more, Twin.Act act, int finding) {
        twin.refused(sentence, x -> {
            BusyDesk.make(x);
            more.on(x);
        }, act, finding);
    }

    /** What the looks see must be there, or a change of it would not be seen. */
    private static void busyDeskIsBusy() {
        Desk x = new Desk();
        BusyDesk.make(x);
        for (int finding = Due.BARRED; finding <= Due.BEYOND; finding++) {
            due.is("the busy desk: findings", x.found(finding), 0);
        }
        for (int t = 0; t < 5; t++) {
            due.is("the busy desk: samples", x.sample(t, -1), BusyDesk.SAMPLES[t]);
            due.holds("the busy desk: its last frame", x.level(t, BusyDesk.FRAMES[t] - 1) >= 0);
            due.holds("the busy desk: laid", x.frame(t, 2) >= 0);
        }
        due.is("the busy desk: joins", x.joins(), 2);
        due.holds("the busy desk: a shift", x.shift(3, 2, 4) != 0 || x.shift(1, 3, 2) != 0);
        due.is("the busy desk: a ramp", x.from(40, 3), 1);
        due.is("the busy desk: two numbers wait", x.tell(0), 3);
        due.holds("the busy desk: twenty ways", x.best(19) > Due.BEYOND);
    }

    private static void score() {
        for (int beats : new int[] {0, 25, -1, LOW, HIGH}) {
            no("2, BEYOND: B isn't 1 .. 24: " + beats, x -> x.score(beats), Due.BEYOND);
        }
    }

    private static void beat() {
        for (int b : new int[] {-1, BusyDesk.BEATS, LOW, HIGH}) {
            no("3, BEYOND: there is no such beat: " + b, x -> x.beat(b, 7, 7), Due.BEYOND);
        }
        for (int loud : new int[] {-1, 10001, LOW, HIGH}) {
            no("3, BEYOND: LOUDNESS isn't 0 .. 10000: " + loud, x -> x.beat(0, loud, 7), Due.BEYOND);
        }
        for (int length : new int[] {0, 41, -1, LOW, HIGH}) {
            no("3, BEYOND: LENGTH isn't 1 .. 40: " + length, x -> x.beat(0, 7, length), Due.BEYOND);
        }
    }

    private static void take() {
        for (int t : new int[] {-1, 6, LOW, HIGH}) {
            no("4, BEYOND: there is no such take: " + t, x -> x.take(t, 0, 0, 0, 0), Due.BEYOND);
        }
        for (int t = 0; t < 6; t++) {
            takeKinds(t);
            takeBeats(t);
        }
        no("4, BEYOND ahead of all else", x -> x.take(6, 5, 4, 3, 1001), Due.BEYOND);
    }

    private static void takeKinds(int t) {
        for (int kind : new int[] {-1, 5, LOW, HIGH}) {
            no("4, BEYOND: kind isn't 0 .. 4: " + kind, x -> x.take(t, kind, 0, 0, 0), Due.BEYOND);
        }
        for (int more : new int[] {-1, 1001, LOW, HIGH}) {
            no("4, BEYOND: more isn't 0 .. 1000: " + more, x -> x.take(t, 2, 0, 1, more), Due.BEYOND);
        }
    }

    private static void takeBeats(int t) {
        for (int kind = 1; kind <= 2; kind++) {
            int told = kind;
            for (int from : new int[] {-1, LOW}) {
                no("4, BEYOND: from isn't a beat: " + from, x -> x.take(t, told, from, 2, 0), Due.BEYOND);
                no("4, BEYOND: neither is a beat: " + from, x -> x.take(t, told, from, -1, 0), Due.BEYOND);
            }
            for (int to : new int[] {BusyDesk.BEATS, HIGH}) {
                no("4, BEYOND: to isn't a beat: " + to, x -> x.take(t, told, 2, to, 0), Due.BEYOND);
                no("4, BEYOND: neither is a beat: " + to, x -> x.take(t, told, to, to, 0), Due.BEYOND);
            }
            no("4, BEYOND: from above to", x -> x.take(t, told, 2, 1, 0), Due.BEYOND);
            no("4, BEYOND: from far above to", x -> x.take(t, told, 4, 0, 0), Due.BEYOND);
        }
    }

    private static void tear() {
        for (int t : new int[] {-1, 6, LOW, HIGH}) {
            no("5, BEYOND: " + t, x -> x.tear(t), Due.BEYOND);
        }
        no("5, MISSING: it is", x -> x.tear(5), Due.MISSING);
        noBehind("5, MISSING: torn already", x -> x.tear(3), x -> x.tear(3), Due.MISSING);
    }

    private static void play() {
        for (int t : new int[] {-1, 6, LOW, HIGH}) {
            no("6, BEYOND: there is no such take: " + t, x -> x.play(t, 1, 1, 1), Due.BEYOND);
        }
        for (int g : new int[] {-1, 101, LOW, HIGH}) {
            no("6, BEYOND: g isn't 0 .. 100: " + g, x -> x.play(0, 1, g, 1), Due.BEYOND);
        }
        no("6, MISSING", x -> x.play(5, 1, 1, 1), Due.MISSING);
        for (int n : new int[] {-1, LOW}) {
            no("6, SIZE: n is below 0: " + n, x -> x.play(0, n, 1, 1), Due.SIZE);
        }
        for (int t = 0; t < 5; t++) {
            int full = t;
            int n = 400 - BusyDesk.SAMPLES[t] + 1;
            no("6, FULL: 401 of take " + t, x -> x.play(full, n, 1, 1), Due.FULL);
        }
        for (int n : new int[] {401, HIGH - 95, HIGH - 94, HIGH}) {
            no("6, FULL: far more than 400: " + n, x -> x.play(0, n, 1, 1), Due.FULL);
        }
        noBehind("6, FULL: 400 are there", x -> x.play(0, 305, 9, 9), x -> x.play(0, 1, 1, 1), Due.FULL);
    }

    private static void playOrder() {
        no("6, BEYOND ahead of MISSING", x -> x.play(5, 1, 101, 1), Due.BEYOND);
        no("6, BEYOND ahead of SIZE", x -> x.play(0, -1, -1, 1), Due.BEYOND);
        no("6, BEYOND ahead of FULL", x -> x.play(0, 401, 101, 1), Due.BEYOND);
        no("6, MISSING ahead of SIZE", x -> x.play(5, -1, 1, 1), Due.MISSING);
        no("6, MISSING ahead of FULL", x -> x.play(5, 401, 1, 1), Due.MISSING);
    }

    private static void copyOfWhat() {
        for (int t : new int[] {-1, 6, LOW, HIGH}) {
            no("7, BEYOND: there is no such take s: " + t, x -> x.copy(t, 0, 1, 0, 100), Due.BEYOND);
            no("7, BEYOND: there is no such take t: " + t, x -> x.copy(0, 0, 1, t, 100), Due.BEYOND);
        }
        for (int num : new int[] {-401, 401, LOW, HIGH}) {
            no("7, BEYOND: num isn't -400 .. 400: " + num, x -> x.copy(0, 0, 1, 1, num), Due.BEYOND);
        }
        no("7, MISSING: s is", x -> x.copy(5, 0, 0, 0, 100), Due.MISSING);
        no("7, MISSING: t is", x -> x.copy(0, 0, 0, 5, 100), Due.MISSING);
        no("7, MISSING: both are", x -> x.copy(5, 0, 0, 5, 100), Due.MISSING);
        for (int n : new int[] {-1, LOW}) {
            no("7, SIZE: n is below 0: " + n, x -> x.copy(0, 1, n, 1, 100), Due.SIZE);
        }
    }

    private static void copySizes() {
        for (int from : new int[] {-1, LOW}) {
            no("7, BEYOND: s has no such samples, from " + from, x -> x.copy(0, from, 1, 1, 100), Due.BEYOND);
            no("7, BEYOND: s has no such samples, up to 0", x -> x.copy(0, from, 0, 1, 100), Due.BEYOND);
        }
        no("7, BEYOND: one too far", x -> x.copy(0, 94, 2, 1, 100), Due.BEYOND);
        no("7, BEYOND: one too many", x -> x.copy(0, 0, 96, 1, 100), Due.BEYOND);
        no("7, BEYOND: behind the last one", x -> x.copy(0, 95, 1, 1, 100), Due.BEYOND);
        no("7, BEYOND: none from further on", x -> x.copy(0, 96, 0, 1, 100), Due.BEYOND);
        for (int far : new int[] {HIGH, HIGH - 1}) {
            no("7, BEYOND: from far on", x -> x.copy(0, far, 1, 1, 100), Due.BEYOND);
            no("7, BEYOND: far too many", x -> x.copy(0, 1, far, 1, 100), Due.BEYOND);
            no("7, BEYOND: both", x -> x.copy(0, far, far, 1, 100), Due.BEYOND);
        }
        noBehind("7, FULL: 401 of t", x -> x.play(1, 300, 9, 9), x -> x.copy(0, 0, 28, 1, 100), Due.FULL);
        noBehind("7, FULL: 401 of itself", x -> x.play(0, 155, 9, 9), x -> x.copy(0, 0, 151, 0, 100), Due.FULL);
        noBehind("7, FULL: 400 are there", x -> x.play(1, 327, 9, 9), x -> x.copy(0, 0, 1, 1, 0), Due.FULL);
    }

    private static void copyOrder() {
        no("7, BEYOND ahead of MISSING", x -> x.copy(5, 0, 1, 0, 401), Due.BEYOND);
        no("7, BEYOND ahead of MISSING, t", x -> x.copy(5, 0, 1, 6, 100), Due.BEYOND);
        no("7, BEYOND ahead of SIZE", x -> x.copy(0, 0, -1, 1, -401), Due.BEYOND);
        no("7, MISSING ahead of SIZE", x -> x.copy(0, 0, -1, 5, 100), Due.MISSING);
        no("7, MISSING ahead of samples", x -> x.copy(0, 96, 1, 5, 100), Due.MISSING);
        no("7, SIZE ahead of samples", x -> x.copy(0, -1, -1, 1, 100), Due.SIZE);
        noBehind("7, samples ahead of FULL", x -> x.play(1, 327, 9, 9), x -> x.copy(0, 94, 2, 1, 1), Due.BEYOND);
        noBehind("7, SIZE of one that is full", x -> x.play(1, 327, 9, 9), x -> x.copy(0, 0, -1, 1, 1), Due.SIZE);
    }

    private static void put() {
        for (int t : new int[] {-1, 6, LOW, HIGH}) {
            no("8, BEYOND: there is no such take: " + t, x -> x.put(t, 0, 1), Due.BEYOND);
        }
        no("8, MISSING", x -> x.put(5, 0, 1), Due.MISSING);
        no("8, MISSING ahead of BEYOND", x -> x.put(5, -1, 101), Due.MISSING);
        for (int i : new int[] {-1, 95, 400, LOW, HIGH}) {
            no("8, BEYOND: it has no such sample: " + i, x -> x.put(0, i, 1), Due.BEYOND);
        }
        for (int v : new int[] {-101, 101, LOW, HIGH}) {
            no("8, BEYOND: v isn't -100 .. 100: " + v, x -> x.put(0, 1, v), Due.BEYOND);
            no("8, BEYOND: v isn't -100 .. 100, of a ROOM: " + v, x -> x.put(4, 1, v), Due.BEYOND);
        }
        noBehind("8, BEYOND: it has none", x -> x.take(5, 0, 0, 0, 0), x -> x.put(5, 0, 1), Due.BEYOND);
        noBehind("8, BEYOND: 400 are there", x -> x.play(0, 305, 9, 9), x -> x.put(0, 400, 1), Due.BEYOND);
    }

    private static void sample() {
        for (int t : new int[] {-1, 6, LOW, HIGH}) {
            no("9, BEYOND: there is no such take: " + t, x -> x.sample(t, -1), Due.BEYOND);
        }
        no("9, MISSING", x -> x.sample(5, -1), Due.MISSING);
        no("9, MISSING ahead of BEYOND", x -> x.sample(5, -2), Due.MISSING);
        for (int i : new int[] {-2, 95, 400, LOW, HIGH}) {
            no("9, BEYOND: no such sample: " + i, x -> x.sample(0, i), Due.BEYOND);
        }
        noBehind("9, BEYOND: it has none", x -> x.take(5, 0, 0, 0, 0), x -> x.sample(5, 0), Due.BEYOND);
        noBehind("9, BEYOND: 400 are there", x -> x.play(0, 305, 9, 9), x -> x.sample(0, 400), Due.BEYOND);
    }

    private static void as() {
        for (int t : new int[] {-1, 6, LOW, HIGH}) {
            no("10, BEYOND: there is no such take: " + t, x -> x.as(t, 0), Due.BEYOND);
        }
        for (int kind : new int[] {-1, 5, LOW, HIGH}) {
            no("10, BEYOND: there is no such kind: " + kind, x -> x.as(0, kind), Due.BEYOND);
            no("10, BEYOND ahead of MISSING: " + kind, x -> x.as(5, kind), Due.BEYOND);
        }
        no("10, MISSING", x -> x.as(5, 0), Due.MISSING);
        int[][] others = {{1, 2, 3, 4}, {2, 3, 4}, {3, 4}, {1, 2, 4}, {1, 2}};
        for (int t = 0; t < 5; t++) {
            int take = t;
            for (int kind : others[t]) {
                no("10, KIND: kind " + t + " as " + kind, x -> x.as(take, kind), Due.KIND);
            }
        }
    }

    private static void level() {
        for (int t : new int[] {-1, 6, LOW, HIGH}) {
            no("11, BEYOND: there is no such take: " + t, x -> x.level(t, 0), Due.BEYOND);
        }
        no("11, MISSING", x -> x.level(5, 0), Due.MISSING);
        no("11, MISSING ahead of BEYOND", x -> x.level(5, -1), Due.MISSING);
        for (int t = 0; t < 5; t++) {
            int take = t;
            int behind = BusyDesk.FRAMES[t];
            no("11, BEYOND: there is no such frame of take " + t, x -> x.level(take, behind), Due.BEYOND);
        }
        for (int f : new int[] {-1, 40, LOW, HIGH}) {
            no("11, BEYOND: there is no such frame: " + f, x -> x.level(0, f), Due.BEYOND);
        }
        noBehind("11, BEYOND: it has no samples", x -> x.take(5, 0, 0, 0, 0), x -> x.level(5, 0), Due.BEYOND);
        noBehind("11, BEYOND: 40 are there", x -> x.play(0, 305, 9, 9), x -> x.level(0, 40), Due.BEYOND);
    }
}
