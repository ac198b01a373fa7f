import java.util.Random;

/** All promises: runs of calls by a fixed seed, each answered alike by the class and the model. */
final class ModelTest {
    private static final int RUNS = 4500;
    /** More than one step of a run asks for. */
    private static final int STEP_CALLS = 60;
    private static final Due due = new Due();

    private final Random random;
    private final Desk x = new Desk();
    private final Model m = new Model();
    private final int run;
    private int beats = 4;
    private boolean alike;

    private ModelTest(int run) {
        this.run = run;
        random = new Random(run);
        alike = run % 5 == 0;
    }

    public static void main(String[] args) {
        for (int run = 0; run < RUNS && due.wrong() < 20; run++) {
            new ModelTest(run).go();
        }
        due.end();
    }

    private void go() {
        beats = 1 + random.nextInt(5);
        same("score(" + beats + ")", x.score(beats), m.score(beats));
        int takes = 1 + random.nextInt(beats > 4 ? 3 : 4);
        for (int t = 0; t < takes; t++) {
            newTake(t);
        }
        int before = due.wrong();
        while (x.left() >= STEP_CALLS && due.wrong() == before) {
            call(random.nextInt(34), takes);
        }
    }

    private void same(String call, int got, int want) {
        due.is("run " + run + ": " + call, got, want);
    }

    private int pick(int low, int high) {
        return low + random.nextInt(high - low + 1);
    }

    /** Mostly within, now and then one of the numbers around or far from it. */
    private int near(int low, int high) {
        int kind = random.nextInt(40);
        if (kind == 0) {
            return low - 1;
        }
        if (kind == 1) {
            return high + 1;
        }
        if (kind == 2) {
            return random.nextBoolean() ? Integer.MIN_VALUE : Integer.MAX_VALUE;
        }
        return high < low ? low : pick(low, high);
    }

    private void newTake(int t) {
        int kind = near(0, 4);
        int from = near(0, beats - 1);
        int to = near(Math.min(from < 0 ? 0 : from, beats - 1), beats - 1);
        int more = near(0, 1000);
        same("take(" + t + ", " + kind + ", " + from + ", " + to + ", " + more + ")",
            x.take(t, kind, from, to, more), m.take(t, kind, from, to, more));
        play(t);
        lay(t);
    }

    private void play(int t) {
        int have = m.sample(t, -1);
        x.sample(t, -1);
        int n = near(0, Math.max(0, Math.min(130, 160 - have)));
        int g = alike ? near(0, 1) : near(0, 100);
        int seed = random.nextInt();
        if ((long) n + have > 160 && n <= 400 - have) {
            return;
        }
        same("play(" + t + ", " + n + ", " + g + ", " + seed + ")", x.play(t, n, g, seed), m.play(t, n, g, seed));
    }

    private void copy(int s, int t) {
        int have = m.sample(s, -1);
        x.sample(s, -1);
        int from = near(0, Math.max(0, have));
        int n = near(0, Math.max(0, Math.min(20, have - from)));
        int num = random.nextBoolean() ? 100 : near(-400, 400);
        int sofar = m.sample(t, -1);
        x.sample(t, -1);
        if (sofar >= 0 && n >= 0 && (long) n + sofar > 160 && n <= 400) {
            return;
        }
        same("copy(" + s + ", " + from + ", " + n + ", " + t + ", " + num + ")",
            x.copy(s, from, n, t, num), m.copy(s, from, n, t, num));
    }

    private void lay(int t) {
        same("lay(" + t + ")", x.lay(t), m.lay(t));
    }

    private void call(int which, int takes) {
        int t = near(0, takes - 1);
        int s = near(0, takes - 1);
        int b = near(0, beats - 1);
        switch (which) {
            case 0: score(); break;
            case 1: beat(b); break;
            case 2: if (t >= 0 && t < 6 && random.nextInt(3) == 0) { newTake(t); } break;
            case 3: if (random.nextInt(8) == 0) { same("tear(" + t + ")", x.tear(t), m.tear(t)); } break;
            case 4: play(t); break;
            case 5: copy(s, t); break;
            case 6: put(t); break;
            case 7: sample(t); break;
            case 8: as(t); break;
            case 9: level(t); break;
            case 10: hand(t, b); break;
            case 11: case 12: lay(t); break;
            case 13: same("frame(" + t + ", " + b + ")", x.frame(t, b), m.frame(t, b)); break;
            case 14: mark(t, b); break;
            case 15: same("worth(" + t + ", " + b + ")", x.worth(t, b), m.worth(t, b)); break;
            case 16: set(); break;
            case 17: like(s, t, b); break;
            case 18: same("shift(" + s + ", " + t + ", " + b + ")", x.shift(s, t, b), m.shift(s, t, b)); break;
            case 19: same("cost(" + s + ", " + t + ", " + b + ")", x.cost(s, t, b), m.cost(s, t, b)); break;
            case 20: bar(b); break;
            case 21: keep(b, t); break;
            case 22: case 23: case 24: best(); break;
            case 25: few(); break;
            case 26: same("way(" + b + ")", x.way(b), m.way(b)); break;
            case 27: same("joins()", x.joins(), m.joins()); break;
            case 28: same("made()", x.made(), m.made()); break;
            case 29: heard(); break;
            case 30: tell(t); break;
            case 31: told(takes); break;
            case 32: same("check()", x.check(), m.check()); break;
            default: found(); break;
        }
        if (which < 11) {
            layAll(takes);
        }
    }

    private void layAll(int takes) {
        for (int t = 0; t < takes; t++) {
            if (random.nextInt(5) > 0) {
                lay(t);
            }
        }
    }

    private void score() {
        int to = random.nextInt(8) == 0 ? near(1, 5) : 0;
        if (to == 0 || to == 24 || to == 25) {
            return;
        }
        same("score(" + to + ")", x.score(to), m.score(to));
        beats = to >= 1 && to <= 24 ? to : beats;
    }

    private void beat(int b) {
        int loud = alike ? 100 : near(0, 10000);
        int length = random.nextInt(3) == 0 ? near(1, 40) : near(1, 5);
        same("beat(" + b + ", " + loud + ", " + length + ")", x.beat(b, loud, length), m.beat(b, loud, length));
    }

    private void put(int t) {
        int i = near(0, 160);
        int v = alike ? near(-1, 1) : near(-100, 100);
        same("put(" + t + ", " + i + ", " + v + ")", x.put(t, i, v), m.put(t, i, v));
    }

    private void sample(int t) {
        int i = near(-1, 160);
        same("sample(" + t + ", " + i + ")", x.sample(t, i), m.sample(t, i));
    }

    private void as(int t) {
        int kind = near(0, 4);
        same("as(" + t + ", " + kind + ")", x.as(t, kind), m.as(t, kind));
    }

    private void level(int t) {
        int f = near(0, 16);
        same("level(" + t + ", " + f + ")", x.level(t, f), m.level(t, f));
    }

    private void hand(int t, int b) {
        int f = near(-1, 15);
        same("hand(" + t + ", " + b + ", " + f + ")", x.hand(t, b, f), m.hand(t, b, f));
    }

    private void mark(int t, int b) {
        int what = near(0, 3);
        int times = alike ? 1 : pick(1, 10);
        for (int n = 0; n < times; n++) {
            same("mark(" + t + ", " + b + ", " + what + ")", x.mark(t, b, what), m.mark(t, b, what));
        }
    }

    private void set() {
        int what = near(0, 3);
        int v = what == 0 ? near(1, 20) : what == 2 ? near(0, random.nextBoolean() ? 0 : 1000) : near(0, 9);
        same("set(" + what + ", " + v + ")", x.set(what, v), m.set(what, v));
    }

    private void like(int s, int t, int b) {
        int d = near(-20, 20);
        same("like(" + s + ", " + t + ", " + b + ", " + d + ")", x.like(s, t, b, d), m.like(s, t, b, d));
    }

    private void bar(int b) {
        boolean on = random.nextInt(3) == 0;
        same("bar(" + b + ", " + on + ")", x.bar(b, on), m.bar(b, on));
    }

    private void keep(int b, int t) {
        int kept = random.nextInt(3) > 0 ? -1 : t;
        same("keep(" + b + ", " + kept + ")", x.keep(b, kept), m.keep(b, kept));
    }

    private void best() {
        int k = random.nextBoolean() ? near(0, 19) : near(0, 3);
        same("best(" + k + ")", x.best(k), m.best(k));
        wholeWay();
    }

    private void few() {
        int j = near(0, 4);
        same("few(" + j + ")", x.few(j), m.few(j));
        wholeWay();
    }

    private void wholeWay() {
        for (int b = 0; b < beats; b++) {
            same("way(" + b + ")", x.way(b), m.way(b));
        }
        same("joins()", x.joins(), m.joins());
        same("made()", x.made(), m.made());
        for (int n = 0; n < 4; n++) {
            heard();
        }
    }

    private void heard() {
        int i = near(0, Math.max(0, m.made() - 1));
        x.made();
        same("heard(" + i + ")", x.heard(i), m.heard(i));
        for (int what = 0; what < 4; what++) {
            same("from(" + i + ", " + what + ")", x.from(i, what), m.from(i, what));
        }
        int what = near(0, 3);
        same("from(" + i + ", " + what + ")", x.from(i, what), m.from(i, what));
    }

    private void tell(int v) {
        same("tell(" + v + ")", x.tell(v), m.tell(v));
    }

    private void told(int takes) {
        same("check()", x.check(), m.check());
        int value = m.best(pick(0, 2));
        x.found(0);
        m.found(0);
        for (int b = 0; b < beats && value > Due.BEYOND; b++) {
            tell(random.nextInt(12) == 0 ? near(0, takes - 1) : m.way(b));
        }
        if (random.nextInt(8) > 0) {
            tell(value + (random.nextInt(8) == 0 ? 1 : 0));
        }
        if (random.nextInt(8) == 0) {
            tell(value);
        }
        same("check()", x.check(), m.check());
        if (value > Due.BEYOND) {
            same("best(0)", x.best(0), m.best(0));
        } else {
            x.best(2);
        }
    }

    private void found() {
        int finding = near(Due.BARRED, Due.BEYOND);
        same("found(" + finding + ")", x.found(finding), m.found(finding));
    }
}
