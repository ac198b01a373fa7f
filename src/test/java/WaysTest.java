/** Promises 23 to 26: best, few, way, joins. */
final class WaysTest {
    private static final Due due = new Due();

    public static void main(String[] args) {
        findingsOfWays();
        orderOfWays();
        alikeWays();
        fewJoins();
        barsAndKeeps();
        partsMustJoin();
        wayEnds();
        wayStays();
        manyBeats();
        due.end();
    }

    /** Silent takes of four frames; a join of two of them costs 1000 and the constant. */
    private static Desk silentTakes(int takes) {
        Desk x = new Desk();
        for (int t = 0; t < takes; t++) {
            x.take(t, 0, 0, 0, 0);
            x.play(t, 40, 0, 0);
            x.lay(t);
        }
        return x;
    }

    private static void wayIs(String what, Desk x, int... takes) {
        int joins = 0;
        for (int b = 0; b < takes.length; b++) {
            due.is(what + ", take of beat " + b, x.way(b), takes[b]);
            if (b > 0 && takes[b] != takes[b - 1]) {
                joins++;
            }
        }
        due.is(what + ", joins", x.joins(), joins);
    }

    private static void findingsOfWays() {
        Desk x = new Desk();
        due.is("23: k below", x.best(-1), Due.BEYOND);
        due.is("23: k above", x.best(20), Due.BEYOND);
        due.is("23: no takes", x.best(0), Due.NONE);
        due.is("24: j below", x.few(-1), Due.BEYOND);
        due.is("24: no takes", x.few(0), Due.NONE);
        due.is("25: none ahead of beyond", x.way(9), Due.NONE);
        due.is("26: none", x.joins(), Due.NONE);
        x = silentTakes(1);
        due.is("23: one take", x.best(0), 4000);
        due.is("25: no beat 4", x.way(4), Due.BEYOND);
        due.is("25: no beat -1", x.way(-1), Due.BEYOND);
        wayIs("25", x, 0, 0, 0, 0);
        due.is("23: no second one", x.best(1), Due.NONE);
        wayIs("23: the way stays when none is found", x, 0, 0, 0, 0);
        x.take(1, 0, 0, 0, 0);
        x.play(1, 40, 0, 0);
        due.is("23: a take that isn't laid", x.best(1), Due.NONE);
        due.is("23: but the one that is", x.best(0), 4000);
    }

    private static void orderOfWays() {
        Desk x = silentTakes(2);
        for (int n = 0; n < 9; n++) {
            x.mark(0, 1, 3);
            x.mark(1, 2, 3);
        }
        x.mark(1, 3, 2);
        due.is("23: two beats are lovely", x.best(0), 4000 + 3600 - 1200 - 50);
        wayIs("23: best(0)", x, 0, 0, 1, 1);
        due.is("23: no joins", x.best(1), 5800);
        wayIs("23: best(1)", x, 0, 0, 0, 0);
        due.is("23: no joins, one noise", x.best(2), 5750);
        wayIs("23: best(2)", x, 1, 1, 1, 1);
        due.is("23: two joins", x.best(3), 7600 - 2400);
        wayIs("23: best(3)", x, 0, 0, 1, 0);
        due.is("23: two joins, one noise", x.best(4), 7600 - 2400 - 50);
        wayIs("23: best(4)", x, 1, 0, 1, 1);
        due.is("23: two of alike value and joins", x.best(5), 5800 - 1200);
        wayIs("23: best(5)", x, 1, 0, 0, 0);
        due.is("23: two of alike value and joins", x.best(6), 5800 - 1200);
        wayIs("23: best(6)", x, 1, 1, 1, 0);
        due.is("23: the next two", x.best(7), 5800 - 1200 - 50);
        wayIs("23: best(7)", x, 0, 0, 0, 1);
        due.is("23: the last one has three joins", x.best(15), 4000 - 3600 - 50);
        wayIs("23: best(15)", x, 0, 1, 0, 1);
        due.is("23: no seventeenth", x.best(16), Due.NONE);
    }

    private static void alikeWays() {
        Desk x = silentTakes(3);
        x.set(2, 0);
        for (int b = 0; b < 4; b++) {
            due.is("23: a lovely beat", x.mark(1, b, 3), 1);
        }
        for (int n = 0; n < 5; n++) {
            x.mark(0, 3, 3);
        }
        x.mark(1, 3, 1);
        x.mark(1, 3, 1);
        due.is("23: 0000", x.best(0), 5000);
        wayIs("23: 0000", x, 0, 0, 0, 0);
        due.is("23: 1111", x.best(1), 4600);
        wayIs("23: 1111", x, 1, 1, 1, 1);
        due.is("23: 1110 has a join, and the same value", x.best(2), 4600);
        wayIs("23: 1110", x, 1, 1, 1, 0);
        x = silentTakes(6);
        for (int k = 0; k < 6; k++) {
            due.is("23: alike takes", x.best(k), 4000);
            wayIs("23: alike takes in order", x, k, k, k, k);
        }
        due.is("23: one join", x.best(6), 2800);
        wayIs("23: the first by takes", x, 0, 0, 0, 1);
        due.is("23: one join", x.best(11), 2800);
        wayIs("23: the first by takes", x, 0, 0, 1, 1);
        due.is("23: the last that may be asked", x.best(19), 2800);
        wayIs("23: the last that may be asked", x, 0, 4, 4, 4);
    }

    private static void fewJoins() {
        Desk x = silentTakes(2);
        for (int n = 0; n < 9; n++) {
            x.mark(0, 0, 3);
            x.mark(1, 1, 3);
            x.mark(0, 2, 3);
            x.mark(1, 3, 3);
        }
        due.is("24: no join", x.few(0), 4000 + 3600);
        wayIs("24: no join, the first by takes", x, 0, 0, 0, 0);
        due.is("24: one join", x.few(1), 4000 + 5400 - 1200);
        wayIs("24: one join, the first by takes", x, 0, 0, 0, 1);
        due.is("24: two joins are no better", x.few(2), 4000 + 5400 - 1200);
        due.is("24: three joins are no better", x.few(3), 4000 + 5400 - 1200);
        wayIs("24: a best one with fewer joins", x, 0, 0, 0, 1);
        x.set(2, 0);
        due.is("24: three joins", x.few(3), 4000 + 5400 - 1000);
        wayIs("24: of alike ones the fewer", x, 0, 0, 0, 1);
        for (int t = 0; t < 2; t++) {
            x.put(t, 10, 10);
            x.put(t, 20, 10);
            x.put(t, 30, 10);
            x.lay(t);
        }
        due.is("24: cheap joins, two of them", x.few(2), 4000 + 5400);
        wayIs("24: cheap joins, two of them alike one", x, 0, 0, 0, 1);
        due.is("24: cheap joins, three of them", x.few(3), 4000 + 7200);
        wayIs("24: cheap joins, three of them", x, 0, 1, 0, 1);
        due.is("24: as many as may be", x.few(Integer.MAX_VALUE), 4000 + 7200);
        wayIs("24: as many as may be", x, 0, 1, 0, 1);
        due.is("24: like the best", x.best(0), 4000 + 7200);
    }

    private static void barsAndKeeps() {
        Desk x = silentTakes(3);
        x.keep(1, 1);
        due.is("22: a kept beat", x.best(0), 4000);
        wayIs("22: a kept beat", x, 1, 1, 1, 1);
        x.keep(3, 2);
        due.is("22: two kept beats", x.best(0), 2800);
        wayIs("22: two kept beats", x, 1, 1, 1, 2);
        due.is("24: too few joins", x.few(0), Due.NONE);
        due.is("24: just enough", x.few(1), 2800);
        wayIs("24: just enough", x, 1, 1, 1, 2);
        x.bar(3, true);
        due.is("21: a bar", x.best(0), 2800);
        wayIs("21: a bar", x, 1, 1, 2, 2);
        due.is("24: a bar", x.few(9), 2800);
        wayIs("24: a bar", x, 1, 1, 2, 2);
        x.bar(2, true);
        due.is("21: no way through", x.best(0), Due.NONE);
        due.is("24: no way through", x.few(9), Due.NONE);
        x.bar(2, false);
        x.keep(0, 5);
        due.is("22: a missing take is kept", x.best(0), Due.NONE);
        due.is("24: a missing take is kept", x.few(9), Due.NONE);
        x.keep(0, 0);
        due.is("22: three kept beats", x.best(0), 1600);
        wayIs("22: three kept beats", x, 0, 1, 2, 2);
        due.is("22: no other", x.best(1), Due.NONE);
    }

    private static void partsMustJoin() {
        Desk x = new Desk();
        x.take(5, 1, 0, 1, 0);
        x.take(2, 2, 2, 3, 50);
        x.play(5, 20, 0, 0);
        x.play(2, 20, 0, 0);
        x.lay(5);
        due.is("23: beats 2 and 3 have none", x.best(0), Due.NONE);
        x.lay(2);
        due.is("23: a join of parts", x.best(0), 4100 - 1200);
        wayIs("23: a join of parts", x, 5, 5, 2, 2);
        due.is("23: no other", x.best(1), Due.NONE);
        due.is("24: not without a join", x.few(0), Due.NONE);
        x.bar(2, true);
        due.is("21: no join at 2", x.best(0), Due.NONE);
    }

    private static void wayEnds() {
        for (int act = 0; act < 13; act++) {
            Desk x = silentTakes(2);
            x.best(0);
            x.few(0);
            wayIs("25: ahead of act " + act, x, 0, 0, 0, 0);
            refusedActs(x);
            wayIs("25: refused acts leave it", x, 0, 0, 0, 0);
            act(x, act);
            due.is("25: way behind act " + act, x.way(0), Due.NONE);
            due.is("26: joins behind act " + act, x.joins(), Due.NONE);
            due.is("27: made behind act " + act, x.made(), Due.NONE);
            due.is("28: heard behind act " + act, x.heard(-1), Due.NONE);
            due.is("29: from behind act " + act, x.from(-1, 9), Due.NONE);
        }
    }

    private static void act(Desk x, int act) {
        switch (act) {
            case 0: x.score(4); break;
            case 1: x.beat(0, 100, 3); break;
            case 2: x.take(5, 0, 0, 0, 0); break;
            case 3: x.tear(1); break;
            case 4: x.play(1, 0, 0, 0); break;
            case 5: x.copy(0, 0, 0, 1, 0); break;
            case 6: x.put(1, 0, 0); break;
            case 7: x.hand(1, 0, -1); break;
            case 8: x.lay(1); break;
            case 9: x.mark(1, 0, 3); break;
            case 10: x.set(3, 4); break;
            case 11: x.bar(1, false); break;
            default: x.keep(0, -1); break;
        }
    }

    private static void refusedActs(Desk x) {
        due.is("2: refused", x.score(25), Due.BEYOND);
        due.is("3: refused", x.beat(0, -1, 1), Due.BEYOND);
        due.is("4: refused", x.take(5, 5, 0, 0, 0), Due.BEYOND);
        due.is("5: refused", x.tear(5), Due.MISSING);
        due.is("6: refused", x.play(0, 361, 1, 1), Due.FULL);
        due.is("7: refused", x.copy(0, 0, 41, 1, 1), Due.BEYOND);
        due.is("8: refused", x.put(0, 40, 1), Due.BEYOND);
        due.is("12: refused", x.hand(0, 0, 4), Due.BEYOND);
        due.is("13: refused", x.lay(5), Due.MISSING);
        due.is("15: refused", x.mark(0, 0, 4), Due.BEYOND);
        due.is("17: refused", x.set(0, 0), Due.BEYOND);
        due.is("21: refused", x.bar(0, true), Due.BEYOND);
        due.is("22: refused", x.keep(0, 6), Due.BEYOND);
        due.is("23: refused", x.best(20), Due.BEYOND);
        due.is("24: refused", x.few(-1), Due.BEYOND);
    }

    private static void wayStays() {
        Desk x = silentTakes(2);
        x.best(1);
        x.tell(3);
        x.check();
        x.found(Due.NONE);
        x.found(3);
        x.sample(0, 0);
        x.level(0, 0);
        x.worth(0, 0);
        x.frame(0, 0);
        x.like(0, 1, 1, 0);
        x.shift(0, 1, 1);
        x.cost(0, 1, 1);
        x.as(0, 0);
        x.made();
        x.heard(0);
        x.from(0, 0);
        wayIs("25: asking leaves it", x, 1, 1, 1, 1);
        due.is("23: the sixteenth", x.best(15), 400);
        wayIs("25: a way found behind takes its place", x, 1, 0, 1, 0);
    }

    private static void manyBeats() {
        Desk x = new Desk();
        x.score(24);
        for (int t = 0; t < 6; t++) {
            x.take(t, 0, 0, 0, 0);
            x.play(t, 400, 0, 0);
            x.lay(t);
        }
        for (int b = 0; b < 24; b++) {
            x.keep(b, b % 6);
        }
        due.is("23: 23 joins", x.best(0), 24000 - 23 * 1200);
        due.is("26: 23 joins", x.joins(), 23);
        due.is("24: 22 joins", x.few(22), Due.NONE);
        due.is("24: 23 joins", x.few(23), 24000 - 23 * 1200);
        due.is("24: more joins", x.few(24), 24000 - 23 * 1200);
        for (int b = 0; b < 24; b++) {
            due.is("25: beat " + b, x.way(b), b % 6);
        }
        x.score(1);
        x.lay(3);
        x.lay(4);
        x.mark(4, 0, 3);
        due.is("23: one beat", x.best(0), 1200);
        wayIs("23: one beat", x, 4);
        due.is("23: one beat", x.best(1), 1000);
        wayIs("23: one beat", x, 3);
        due.is("24: one beat", x.few(0), 1200);
        wayIs("24: one beat", x, 4);
    }
}
