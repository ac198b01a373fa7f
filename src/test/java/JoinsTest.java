/** Promises 17 to 22: set, like, shift, cost, bar, keep. */
final class JoinsTest {
    private static final Due due = new Due();

    public static void main(String[] args) {
        setItself();
        findingsOfJoins();
        likeItself();
        likeBehindTheLastBeat();
        shiftItself();
        costItself();
        costKnowsChanges();
        barItself();
        keepItself();
        due.end();
    }

    private static void setItself() {
        Desk x = new Desk();
        int[] least = {1, 0, 0, 0};
        int[] most = {20, 9, 1000, 9};
        int[] first = {8, 3, 200, 4};
        for (int what = 0; what < 4; what++) {
            due.is("17: below", x.set(what, least[what] - 1), Due.BEYOND);
            due.is("17: above", x.set(what, most[what] + 1), Due.BEYOND);
            due.is("17: least", x.set(what, least[what]), first[what]);
            due.is("17: most", x.set(what, most[what]), least[what]);
            due.is("17: what it was", x.set(what, first[what]), most[what]);
        }
        due.is("17: no such", x.set(4, 1), Due.BEYOND);
        due.is("17: no such", x.set(-1, 1), Due.BEYOND);
        x.set(0, 5);
        x.score(3);
        due.is("17: a new score leaves it", x.set(0, 8), 5);
    }

    private static void findingsOfJoins() {
        Desk x = new Desk();
        due.is("18: no take s", x.like(6, 0, 0, 0), Due.BEYOND);
        due.is("18: no take t", x.like(0, -1, 0, 0), Due.BEYOND);
        due.is("18: d ahead of missing", x.like(0, 1, 0, 21), Due.BEYOND);
        due.is("18: d ahead of missing", x.like(0, 1, 0, -21), Due.BEYOND);
        due.is("18: missing", x.like(0, 1, 0, 20), Due.MISSING);
        due.is("19: no take", x.shift(0, 6, 0), Due.BEYOND);
        due.is("19: missing", x.shift(0, 1, 9), Due.MISSING);
        due.is("20: no take", x.cost(-1, 0, 0), Due.BEYOND);
        due.is("20: missing", x.cost(0, 1, 9), Due.MISSING);
        x.take(0, 1, 0, 1, 0);
        x.take(1, 1, 1, 3, 0);
        x.play(0, 40, 20, 1);
        x.play(1, 60, 20, 2);
        due.is("18: one is missing", x.like(0, 2, 9, 0), Due.MISSING);
        due.is("18: none ahead of beyond", x.like(0, 1, 9, 0), Due.NONE);
        x.lay(0);
        due.is("18: one isn't laid", x.like(0, 1, 2, 0), Due.NONE);
        due.is("18: one isn't laid", x.like(1, 0, 2, 0), Due.NONE);
        due.is("19: one isn't laid", x.shift(0, 1, 2), Due.NONE);
        due.is("20: one isn't laid", x.cost(0, 1, 2), Due.NONE);
        x.lay(1);
        int[] wrongBeats = {-1, 0, 3, 4, Integer.MIN_VALUE, Integer.MAX_VALUE};
        for (int b : wrongBeats) {
            due.is("18: beat " + b, x.like(0, 1, b, 0), Due.BEYOND);
            due.is("19: beat " + b, x.shift(0, 1, b), Due.BEYOND);
            due.is("20: beat " + b, x.cost(0, 1, b), Due.BEYOND);
        }
        due.is("18: t hasn't it", x.like(1, 0, 2, 0), Due.BEYOND);
        due.is("18: s hasn't it, nor the one ahead", x.like(1, 0, 0, 0), Due.BEYOND);
        due.holds("18: s has the one ahead", x.like(0, 1, 2, 0) >= -1000);
        due.holds("18: s has it", x.like(0, 1, 1, 0) >= -1000);
    }

    /** Two takes of 4 frames for 4 beats: beat b is at frame b, and starts at sample 10 b. */
    private static Desk twoTakes() {
        Desk x = new Desk();
        for (int t = 0; t < 2; t++) {
            x.take(t, 0, 0, 0, 0);
            x.play(t, 40, 0, 0);
        }
        return x;
    }

    private static void likeItself() {
        Desk x = twoTakes();
        x.set(0, 2);
        x.put(0, 18, 10);
        x.put(0, 19, -20);
        x.put(0, 20, 30);
        x.put(0, 21, 7);
        x.put(0, 22, 90);
        x.put(1, 17, 90);
        x.put(1, 18, 20);
        x.put(1, 19, -10);
        x.put(1, 20, 20);
        x.put(1, 21, -7);
        x.put(1, 22, 50);
        x.lay(0);
        x.lay(1);
        int own = 100 + 400 + 900 + 49;
        int other = 400 + 100 + 400 + 49;
        due.is("18: W 2 by 0", x.like(0, 1, 2, 0), 2000 * (200 + 200 + 600 - 49) / (own + other));
        int later = 100 + 400 + 49 + 2500;
        due.is("18: W 2 by 1", x.like(0, 1, 2, 1), 2000 * (-100 - 400 - 210 + 350) / (own + later));
        int sooner = 8100 + 400 + 100 + 400;
        due.is("18: W 2 by -1", x.like(0, 1, 2, -1), 2000 * (900 - 400 - 300 + 140) / (own + sooner));
        due.is("18: of itself", x.like(0, 0, 2, 0), 1000);
        due.is("18: silence", x.like(0, 1, 0, 0), 0);
        due.is("18: far shift, one is silent", x.like(0, 1, 2, 20), 0);
        due.is("18: beyond the ends", x.like(0, 1, 0, -20), 0);
        x.set(0, 1);
        due.is("18: W 1", x.like(0, 1, 2, 0), 2000 * (200 + 600) / (400 + 900 + 100 + 400));
        x.set(0, 20);
        int all = own + 8100;
        int allOther = other + 8100 + 2500;
        due.is("18: W 20", x.like(0, 1, 2, 0), 2000 * (200 + 200 + 600 - 49 + 4500) / (all + allOther));
    }

    private static void likeBehindTheLastBeat() {
        Desk x = new Desk();
        x.beat(1, 100, 5);
        x.take(0, 1, 0, 1, 0);
        x.take(1, 1, 2, 3, 0);
        x.play(0, 100, 0, 0);
        x.play(1, 40, 0, 0);
        x.put(0, 80, 10);
        x.put(1, 0, 10);
        x.hand(0, 0, 0);
        x.hand(0, 1, 3);
        x.lay(0);
        x.lay(1);
        due.is("18: the beat behind the last one", x.like(0, 1, 2, 0), 1000);
        due.is("20: its level", x.cost(0, 1, 2), 200);
        x.put(0, 81, 100);
        x.lay(0);
        due.is("20: its level, changed", x.cost(0, 1, 2), 200 + (1000 - 2000 * 1000 / 10200) + 1010 - 10);
        x.beat(1, 100, 40);
        x.hand(1, 2, 0);
        x.lay(0);
        x.lay(1);
        due.is("18: far behind the end", x.like(0, 1, 2, 0), 0);
        due.is("20: no such frame has level 0", x.cost(0, 1, 2), 200 + 1000 + 10);
    }

    private static void shiftItself() {
        Desk x = twoTakes();
        x.set(0, 3);
        x.put(0, 20, 50);
        x.put(1, 22, 50);
        x.lay(0);
        x.lay(1);
        due.is("19: two later", x.shift(0, 1, 2), 2);
        due.is("19: two sooner", x.shift(1, 0, 2), -2);
        due.is("19: silence, nearest to 0", x.shift(0, 1, 0), 0);
        due.is("19: of itself", x.shift(0, 0, 2), 0);
        x.set(1, 1);
        due.is("19: D 1 doesn't reach it", x.shift(0, 1, 2), 0);
        x.set(1, 0);
        due.is("19: D 0", x.shift(0, 1, 2), 0);
        x.set(1, 9);
        due.is("19: D 9", x.shift(0, 1, 2), 2);
        x.put(1, 18, 50);
        x.lay(1);
        x.set(0, 1);
        due.is("19: of two the one below 0", x.shift(0, 1, 2), -2);
        x.put(1, 18, 0);
        x.put(1, 17, 50);
        x.lay(1);
        due.is("19: of several the nearest to 0", x.shift(0, 1, 2), 2);
        x.put(1, 22, 0);
        x.put(1, 17, 0);
        x.put(0, 20, 1);
        x.put(1, 29, 1);
        x.lay(0);
        x.lay(1);
        due.is("19: nine later", x.shift(0, 1, 2), 9);
        x.put(1, 29, 0);
        x.put(1, 11, 1);
        x.lay(1);
        due.is("19: nine sooner", x.shift(0, 1, 2), -9);
    }

    private static void costItself() {
        Desk x = twoTakes();
        x.set(0, 1);
        x.put(0, 10, 30);
        x.put(1, 11, 30);
        x.put(1, 15, 20);
        x.lay(0);
        x.lay(1);
        due.is("20: likeness at the shift, levels", x.cost(0, 1, 1), 200 + 0 + 40);
        due.is("20: levels without a sign", x.cost(1, 0, 1), 200 + 1000 + 40);
        due.is("20: silence", x.cost(0, 1, 3), 200 + 1000);
        x.set(2, 0);
        due.is("20: no constant", x.cost(0, 1, 1), 40);
        x.set(2, 1000);
        due.is("20: a great constant", x.cost(0, 1, 1), 1040);
        due.is("20: of itself", x.cost(0, 0, 1), 1000);
        x.set(1, 0);
        due.is("20: without shifts", x.cost(0, 1, 1), 1000 + 1000 + 40);
        x.put(0, 9, 50);
        x.put(1, 9, -50);
        x.put(1, 11, 0);
        x.lay(0);
        x.lay(1);
        x.set(2, 0);
        int unlike = 2000 * -2500 / (2500 + 900 + 2500);
        due.is("20: unlike", x.cost(0, 1, 1), 1000 - unlike + 50);
    }

    private static void costKnowsChanges() {
        Desk x = twoTakes();
        x.lay(0);
        x.lay(1);
        due.is("20: silence", x.cost(0, 1, 2), 1200);
        x.put(1, 25, 10);
        x.lay(1);
        due.is("20: t changed", x.cost(0, 1, 2), 1210);
        due.is("20: t changed, the other way", x.cost(1, 0, 2), 1210);
        x.put(0, 25, 10);
        due.is("20: s isn't laid now", x.cost(0, 1, 2), Due.NONE);
        x.lay(0);
        due.is("20: s changed", x.cost(0, 1, 2), 200);
        x.set(0, 4);
        due.is("20: W changed", x.cost(0, 1, 2), 1200);
        x.play(1, 10, 0, 0);
        x.hand(1, 2, 3);
        x.hand(1, 3, 4);
        x.lay(1);
        due.is("20: hands changed", x.cost(0, 1, 2), 1210);
    }

    private static void barItself() {
        Desk x = new Desk();
        due.is("21: not at beat 0", x.bar(0, true), Due.BEYOND);
        due.is("21: no beat 4", x.bar(4, true), Due.BEYOND);
        due.is("21: no beat -1", x.bar(-1, false), Due.BEYOND);
        due.is("21: off already", x.bar(1, false), 0);
        due.is("21: on", x.bar(1, true), 1);
        due.is("21: on already", x.bar(1, true), 0);
        due.is("21: the last beat", x.bar(3, true), 1);
        due.is("21: off", x.bar(1, false), 1);
        due.is("21: off already", x.bar(1, false), 0);
        x.score(1);
        due.is("21: one beat has none", x.bar(1, true), Due.BEYOND);
    }

    private static void keepItself() {
        Desk x = new Desk();
        due.is("22: no beat 4", x.keep(4, 0), Due.BEYOND);
        due.is("22: no beat -1", x.keep(-1, 0), Due.BEYOND);
        due.is("22: no take 6", x.keep(0, 6), Due.BEYOND);
        due.is("22: no take -2", x.keep(0, -2), Due.BEYOND);
        due.is("22: a missing take may be told", x.keep(0, 5), -1);
        due.is("22: another", x.keep(0, 0), 5);
        due.is("22: any", x.keep(0, -1), 0);
        due.is("22: any", x.keep(0, -1), -1);
        due.is("22: the last beat", x.keep(3, 2), -1);
    }
}
