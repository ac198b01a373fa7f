import java.util.ArrayList;
import java.util.LinkedHashMap;
import java.util.List;
import java.util.Map;

/**
 * Two desks made alike: one is asked the call, the other one isn't, and then both are looked at all over.
 * Each look has two desks of its own, because looking changes a desk and takes many of its 512 calls.
 */
final class Twin {
    interface Act {
        int on(Desk x);
    }

    interface Acts {
        void on(Desk x);
    }

    private interface Look {
        void at(Desk x, List<Integer> seen);
    }

    /** The looks that THE WAY changes, and those that the numbers that wait change. */
    static final String THE_WAY = "the way";
    static final String WAITING = "the numbers that wait";

    private static final int MOST_HEARD = 400;
    private static final Map<String, Look> LOOKS = looks();

    private final Due due;

    Twin(Due due) {
        this.due = due;
    }

    /** The call answers the finding, and nothing but the count of that finding differs behind it. */
    void refused(String sentence, Acts before, Act act, int finding) {
        if (!answers(sentence, before, act, finding)) {
            return;
        }
        seesNoChange(sentence, before, act, "");
        due.is(sentence + ": how many such findings", foundMore(before, act, finding), 1);
        due.is(sentence + ": how many findings", foundMore(before, act, 0), 1);
    }

    /** The call answers so, and nothing differs behind it but the looks whose names begin so. */
    void leaves(String sentence, Acts before, Act act, int answer, String but) {
        if (!answers(sentence, before, act, answer)) {
            return;
        }
        seesNoChange(sentence, before, act, but);
        due.is(sentence + ": how many findings", foundMore(before, act, 0), 0);
    }

    private boolean answers(String sentence, Acts before, Act act, int answer) {
        int got = act.on(made(before));
        due.is(sentence, got, answer);
        return got == answer;
    }

    private void seesNoChange(String sentence, Acts before, Act act, String but) {
        for (Map.Entry<String, Look> look : LOOKS.entrySet()) {
            if (but.isEmpty() || !look.getKey().startsWith(but)) {
                Desk asked = made(before);
                act.on(asked);
                List<Integer> behind = seen(look.getValue(), asked);
                List<Integer> plain = seen(look.getValue(), made(before));
                due.holds(sentence + ": " + look.getKey() + " as before", behind.equals(plain));
            }
        }
    }

    private static Desk made(Acts before) {
        Desk x = new Desk();
        before.on(x);
        return x;
    }

    private static List<Integer> seen(Look look, Desk x) {
        List<Integer> seen = new ArrayList<>();
        look.at(x, seen);
        return seen;
    }

    /** How many more of one finding (0: of all) the call has brought. */
    private static int foundMore(Acts before, Act act, int finding) {
        Desk x = made(before);
        int had = found(x, finding);
        act.on(x);
        return found(x, finding) - had;
    }

    private static int found(Desk x, int finding) {
        if (finding != 0) {
            return x.found(finding);
        }
        int all = 0;
        for (int one = Due.BARRED; one <= Due.BEYOND; one++) {
            all += x.found(one);
        }
        return all;
    }

    private static Map<String, Look> looks() {
        Map<String, Look> looks = new LinkedHashMap<>();
        for (int take = 0; take < 6; take++) {
            int t = take;
            looks.put("samples of take " + t, (x, seen) -> samples(x, t, seen));
        }
        looks.put("kinds", (x, seen) -> eachTake(5, (t, kind) -> seen.add(x.as(t, kind))));
        looks.put("levels", (x, seen) -> eachTake(41, (t, f) -> seen.add(x.level(t, f))));
        looks.put("frames", (x, seen) -> eachTake(25, (t, b) -> seen.add(x.frame(t, b))));
        looks.put("layings", Twin::layings);
        looks.put("worths", (x, seen) -> eachTake(25, (t, b) -> seen.add(x.worth(t, b))));
        looks.put("marks", (x, seen) -> eachTake(24, (t, m) -> seen.add(x.mark(t, m / 4, m % 4))));
        looks.put("the score", Twin::score);
        looks.put("settings", Twin::settings);
        looks.put("bars and kept beats", Twin::barsAndKept);
        looks.put("likenesses", (x, seen) -> eachJoin(5, (s, t, b) -> seen.add(x.like(s, t, b, 1))));
        looks.put("shifts", (x, seen) -> eachJoin(6, (s, t, b) -> seen.add(x.shift(s, t, b))));
        looks.put("costs", (x, seen) -> eachJoin(6, (s, t, b) -> seen.add(x.cost(s, t, b))));
        looks.put("all ways", Twin::allWays);
        looks.put(THE_WAY, Twin::way);
        looks.put(THE_WAY + ", heard", (x, seen) -> eachMade(x, i -> seen.add(x.heard(i))));
        for (int which = 0; which < 4; which++) {
            int what = which;
            looks.put(THE_WAY + ", from " + what, (x, seen) -> eachMade(x, i -> seen.add(x.from(i, what))));
        }
        looks.put(WAITING, (x, seen) -> seen.add(x.check()));
        looks.put(WAITING + ", how many", (x, seen) -> seen.add(x.tell(0)));
        looks.put(WAITING + ", told on", Twin::toldOn);
        return looks;
    }

    private interface One {
        void at(int i);
    }

    private interface Two {
        void at(int t, int i);
    }

    private interface Three {
        void at(int s, int t, int b);
    }

    private static void eachTake(int many, Two two) {
        for (int t = 0; t < 6; t++) {
            for (int i = 0; i < many; i++) {
                two.at(t, i);
            }
        }
    }

    private static void eachJoin(int beats, Three three) {
        for (int pair = 0; pair < 36; pair++) {
            for (int b = 0; b < beats; b++) {
                three.at(pair / 6, pair % 6, b);
            }
        }
    }

    private static void eachMade(Desk x, One one) {
        int made = Math.min(MOST_HEARD, x.made());
        for (int i = 0; i < made; i++) {
            one.at(i);
        }
    }

    private static void samples(Desk x, int t, List<Integer> seen) {
        int many = x.sample(t, -1);
        seen.add(many);
        for (int i = 0; i < many; i++) {
            seen.add(x.sample(t, i));
        }
    }

    private static void layings(Desk x, List<Integer> seen) {
        for (int t = 0; t < 6; t++) {
            seen.add(x.lay(t));
        }
        eachTake(24, (t, b) -> seen.add(x.frame(t, b)));
    }

    /** A silent part of one beat tells its loudness, one of two beats in two frames the first one's length. */
    private static void score(Desk x, List<Integer> seen) {
        for (int b = 0; b < 25; b++) {
            for (int more = 0; more < 2; more++) {
                seen.add(x.take(5, 1, b, b + more, 0));
                seen.add(x.play(5, 1 + 10 * more, 0, 0));
                seen.add(x.lay(5));
            }
        }
    }

    private static void settings(Desk x, List<Integer> seen) {
        for (int what = 0; what < 4; what++) {
            seen.add(x.set(what, 1));
        }
    }

    private static void barsAndKept(Desk x, List<Integer> seen) {
        for (int b = 0; b < 25; b++) {
            seen.add(x.bar(b, false));
            seen.add(x.keep(b, -1));
        }
    }

    private static void allWays(Desk x, List<Integer> seen) {
        for (int k = 0; k < 20; k++) {
            seen.add(x.best(k));
            way(x, seen);
        }
        for (int j = 0; j < 6; j++) {
            seen.add(x.few(j));
            way(x, seen);
        }
    }

    private static void way(Desk x, List<Integer> seen) {
        for (int b = 0; b < 6; b++) {
            seen.add(x.way(b));
        }
        seen.add(x.joins());
        seen.add(x.made());
    }

    /** The best way behind its first two beats and its value: what waits ahead of that is seen by check(). */
    private static void toldOn(Desk x, List<Integer> seen) {
        int value = x.best(0);
        for (int b = 2; b < 5; b++) {
            seen.add(x.tell(x.way(b)));
        }
        seen.add(x.tell(value));
        seen.add(x.check());
    }
}
