/** Promises 1 to 3: a new object, score, beat. */
final class ScoreTest {
    private static final Due due = new Due();

    public static void main(String[] args) {
        newObject();
        scoreItself();
        scoreClearsAll();
        beatItself();
        due.end();
    }

    private static void newObject() {
        Desk x = new Desk();
        for (int t = 0; t < 6; t++) {
            due.is("1: sample of a take of a new desk", x.sample(t, -1), Due.MISSING);
        }
        for (int b = 0; b < 4; b++) {
            due.is("1: keep of a new desk", x.keep(b, -1), -1);
        }
        due.is("1: no fifth beat", x.keep(4, -1), Due.BEYOND);
        for (int b = 1; b < 4; b++) {
            due.is("1: no bars", x.bar(b, false), 0);
        }
        due.is("1: W", x.set(0, 8), 8);
        due.is("1: D", x.set(1, 3), 3);
        due.is("1: constant", x.set(2, 200), 200);
        due.is("1: R", x.set(3, 4), 4);
        due.is("1: no way", x.way(0), Due.NONE);
        due.is("1: no numbers wait", x.tell(5), 1);
        due.is("1: nothing missing found but six", x.found(Due.MISSING), 6);
        due.is("1: no barred found", x.found(Due.BARRED), 0);
        x.take(0, 0, 0, 0, 0);
        x.play(0, 400, 0, 0);
        due.is("1: loudness 100 and length 3", x.lay(0), 400);
        for (int b = 0; b < 4; b++) {
            due.is("1: length 3", x.frame(0, b), 3 * b);
        }
    }

    private static void scoreItself() {
        Desk x = new Desk();
        due.is("2: score(0)", x.score(0), Due.BEYOND);
        due.is("2: score(-1)", x.score(-1), Due.BEYOND);
        due.is("2: score(25)", x.score(25), Due.BEYOND);
        due.is("2: score(max)", x.score(Integer.MAX_VALUE), Due.BEYOND);
        due.is("2: refused, still four beats", x.keep(3, -1), -1);
        due.is("2: refused, still four beats", x.keep(4, -1), Due.BEYOND);
        due.is("2: score(1)", x.score(1), 1);
        due.is("2: one beat", x.keep(0, -1), -1);
        due.is("2: one beat", x.keep(1, -1), Due.BEYOND);
        due.is("2: score(24)", x.score(24), 24);
        due.is("2: 24 beats", x.keep(23, -1), -1);
        due.is("2: 24 beats", x.keep(24, -1), Due.BEYOND);
    }

    private static void scoreClearsAll() {
        Desk x = new Desk();
        x.beat(1, 5000, 7);
        x.bar(2, true);
        x.keep(1, 0);
        x.take(0, 0, 0, 0, 0);
        x.take(1, 1, 1, 3, 0);
        x.take(2, 2, 0, 2, 9);
        x.take(3, 3, 0, 0, 0);
        x.take(4, 4, 0, 0, 0);
        for (int t = 0; t < 5; t++) {
            x.play(t, 100, 0, 0);
        }
        x.put(0, 7, 33);
        x.mark(0, 1, 0);
        x.mark(2, 1, 3);
        x.hand(0, 0, 5);
        x.lay(0);
        x.lay(2);
        x.tell(1);
        due.is("2: score(3)", x.score(3), 3);
        due.is("2: a part beyond is missing", x.sample(1, -1), Due.MISSING);
        due.is("2: a part within is here", x.sample(2, -1), 100);
        due.is("2: samples stay", x.sample(0, 7), 33);
        due.is("2: all beats of a take", x.as(0, 0), 3);
        due.is("2: all beats of a live", x.as(3, 0), 3);
        due.is("2: all beats of a room", x.as(4, 0), 3);
        due.is("2: told beats of an again", x.as(2, 1), 3);
        due.is("2: nothing is laid", x.frame(0, 0), Due.NONE);
        due.is("2: nothing is laid", x.frame(2, 0), Due.NONE);
        due.is("2: marks are gone", x.worth(0, 1), 1000);
        due.is("2: marks of parts are gone", x.worth(2, 1), 1009);
        due.is("2: bars are gone", x.bar(2, false), 0);
        due.is("2: kept beats are gone", x.keep(1, -1), -1);
        x.put(0, 7, 0);
        due.is("2: beats as at first, no hands", x.lay(0), 300);
        due.is("2: hands are gone", x.frame(0, 0), 0);
        due.is("2: length as at first", x.frame(0, 2), 6);
        due.is("2: numbers told still wait", x.tell(1), 2);
        x.score(6);
        due.is("2: a wider score, all beats", x.as(0, 0), 6);
        due.is("2: a wider score, told beats", x.as(2, 0), 3);
        due.is("2: a torn part stays missing", x.sample(1, -1), Due.MISSING);
        x.lay(2);
        x.score(6);
        due.is("2: the same number of beats is a new score", x.frame(2, 0), Due.NONE);
    }

    private static void beatItself() {
        Desk x = new Desk();
        due.is("3: no beat 4", x.beat(4, 1, 1), Due.BEYOND);
        due.is("3: no beat -1", x.beat(-1, 1, 1), Due.BEYOND);
        due.is("3: loud below", x.beat(0, -1, 1), Due.BEYOND);
        due.is("3: loud above", x.beat(0, 10001, 1), Due.BEYOND);
        due.is("3: length below", x.beat(0, 1, 0), Due.BEYOND);
        due.is("3: length above", x.beat(0, 1, 41), Due.BEYOND);
        due.is("3: edges", x.beat(0, 0, 1), 1);
        due.is("3: edges", x.beat(1, 10000, 40), 1);
        due.is("3: last beat", x.beat(3, 400, 5), 1);
        x.score(2);
        x.beat(0, 50, 2);
        x.beat(1, 10000, 9);
        x.take(0, 0, 0, 0, 0);
        x.take(1, 1, 0, 0, 0);
        x.play(0, 100, 0, 0);
        x.play(1, 10, 0, 0);
        due.is("3: loudness counts", x.lay(0), 10050);
        due.is("3: length counts", x.frame(0, 1), 2);
        x.lay(1);
        due.is("3: refused", x.beat(0, 50, 41), Due.BEYOND);
        due.is("3: refused, still laid", x.frame(0, 1), 2);
        due.is("3: another beat", x.beat(1, 0, 1), 1);
        due.is("3: the score is changed, none is laid", x.frame(0, 1), Due.NONE);
        due.is("3: not a part without that beat either", x.frame(1, 0), Due.NONE);
        due.is("3: laid anew", x.lay(0), 50);
    }
}
