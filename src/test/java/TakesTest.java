/** Promises 4 to 11: take, tear, play, copy, put, sample, as, level. */
final class TakesTest {
    private static final Due due = new Due();

    public static void main(String[] args) {
        takeWrong();
        takeAnew();
        tearItself();
        playItself();
        copyItself();
        putAndSample();
        roomIsSilent();
        asKinds();
        levelItself();
        due.end();
    }

    private static void takeWrong() {
        Desk x = new Desk();
        due.is("4: no take 6", x.take(6, 0, 0, 0, 0), Due.BEYOND);
        due.is("4: no take -1", x.take(-1, 0, 0, 0, 0), Due.BEYOND);
        due.is("4: no kind 5", x.take(0, 5, 0, 0, 0), Due.BEYOND);
        due.is("4: no kind -1", x.take(0, -1, 0, 0, 0), Due.BEYOND);
        due.is("4: from above to", x.take(0, 1, 2, 1, 0), Due.BEYOND);
        due.is("4: from below 0", x.take(0, 1, -1, 1, 0), Due.BEYOND);
        due.is("4: to beyond", x.take(0, 2, 0, 4, 0), Due.BEYOND);
        due.is("4: more below", x.take(0, 2, 0, 3, -1), Due.BEYOND);
        due.is("4: more above", x.take(0, 2, 0, 3, 1001), Due.BEYOND);
        due.is("4: all refused", x.sample(0, -1), Due.MISSING);
        due.is("4: more is of AGAIN alone", x.take(0, 1, 0, 3, 1001), 1);
        due.is("4: more of a part counts nothing", x.worth(0, 0), 1000);
        due.is("4: beats are of parts alone", x.take(1, 0, 9, -5, -7), 1);
        due.is("4: a take has all beats", x.as(1, 0), 4);
        due.is("4: beats are of parts alone", x.take(2, 3, 3, 1, 5000), 1);
        due.is("4: a live one has all beats", x.as(2, 0), 4);
        due.is("4: more of a live one counts nothing", x.worth(2, 0), 1000);
        due.is("4: beats are of parts alone", x.take(3, 4, 2, 1, -1), 1);
        due.is("4: a room has all beats", x.as(3, 0), 4);
        due.is("4: more at its edges", x.take(5, 2, 3, 3, 0), 1);
        due.is("4: worth", x.worth(5, 3), 1000);
        due.is("4: more at its edges", x.take(5, 2, 3, 3, 1000), 1);
        due.is("4: worth", x.worth(5, 3), 2000);
        due.is("4: it hasn't beat 2", x.worth(5, 2), Due.BEYOND);
    }

    private static void takeAnew() {
        Desk x = new Desk();
        x.take(0, 0, 0, 0, 0);
        x.play(0, 100, 30, 1);
        x.mark(0, 0, 3);
        x.hand(0, 0, 4);
        x.lay(0);
        due.is("4: refused", x.take(0, 1, 3, 2, 0), Due.BEYOND);
        due.is("4: refused, nothing is changed", x.frame(0, 0), 4);
        due.is("4: anew", x.take(0, 0, 0, 0, 0), 1);
        due.is("4: no samples", x.sample(0, -1), 0);
        due.is("4: no marks", x.worth(0, 0), 1000);
        due.is("4: not laid", x.frame(0, 0), Due.NONE);
        x.play(0, 100, 0, 0);
        due.is("4: lay", x.lay(0), 400);
        due.is("4: no hands", x.frame(0, 0), 0);
        due.is("4: samples are 0", x.sample(0, 99), 0);
    }

    private static void tearItself() {
        Desk x = new Desk();
        due.is("5: no take 6", x.tear(6), Due.BEYOND);
        due.is("5: no take -1", x.tear(-1), Due.BEYOND);
        due.is("5: missing", x.tear(5), Due.MISSING);
        x.take(5, 0, 0, 0, 0);
        due.is("5: tear", x.tear(5), 1);
        due.is("5: missing", x.tear(5), Due.MISSING);
        due.is("5: missing", x.sample(5, -1), Due.MISSING);
        due.is("5: missing", x.worth(5, 0), Due.MISSING);
    }

    private static void playItself() {
        Desk x = new Desk();
        due.is("6: no take", x.play(6, -1, 101, 0), Due.BEYOND);
        due.is("6: g ahead of missing", x.play(0, -1, 101, 0), Due.BEYOND);
        due.is("6: g below", x.play(0, -1, -1, 0), Due.BEYOND);
        due.is("6: missing ahead of size", x.play(0, -1, 100, 0), Due.MISSING);
        x.take(0, 0, 0, 0, 0);
        due.is("6: size", x.play(0, -1, 100, 0), Due.SIZE);
        due.is("6: full", x.play(0, 401, 100, 0), Due.FULL);
        due.is("6: full of very many", x.play(0, Integer.MAX_VALUE, 100, 0), Due.FULL);
        due.is("6: nothing came", x.sample(0, -1), 0);
        due.is("6: none", x.play(0, 0, 100, 0), 0);
        due.is("6: play", x.play(0, 300, 100, -77), 300);
        due.is("6: full", x.play(0, 101, 100, 5), Due.FULL);
        due.is("6: play behind", x.play(0, 100, 9, 5), 400);
        due.is("6: full", x.play(0, 1, 100, 5), Due.FULL);
        due.is("6: none fit", x.play(0, 0, 100, 5), 400);
        int seen = -77;
        for (int i = 0; i < 300; i++) {
            seen = (int) (1103515245L * seen + 12345L);
            int high = (int) ((seen & 0xffffffffL) / 65536L);
            due.is("6: sample " + i, x.sample(0, i), high % 201 - 100);
        }
        seen = 5;
        for (int i = 300; i < 400; i++) {
            seen = (int) (1103515245L * seen + 12345L);
            int high = (int) ((seen & 0xffffffffL) / 65536L);
            due.is("6: sample " + i, x.sample(0, i), high % 19 - 9);
        }
        x.take(1, 0, 0, 0, 0);
        x.play(1, 50, 0, 3);
        due.is("6: g 0 is silence", x.sample(1, 49), 0);
        x.lay(1);
        x.play(1, 1, 0, 3);
        due.is("6: not laid behind it", x.frame(1, 0), Due.NONE);
    }

    private static void copyItself() {
        Desk x = new Desk();
        due.is("7: no take s", x.copy(6, 0, 0, 0, 0), Due.BEYOND);
        due.is("7: no take t", x.copy(0, 0, 0, -1, 0), Due.BEYOND);
        due.is("7: num ahead of missing", x.copy(0, 0, -1, 1, 401), Due.BEYOND);
        due.is("7: num below", x.copy(0, 0, -1, 1, -401), Due.BEYOND);
        due.is("7: missing ahead of size", x.copy(0, 0, -1, 1, 400), Due.MISSING);
        x.take(0, 0, 0, 0, 0);
        due.is("7: the other one is missing", x.copy(0, 0, -1, 1, 400), Due.MISSING);
        due.is("7: the other one is missing", x.copy(1, 0, -1, 0, 400), Due.MISSING);
        x.take(1, 0, 0, 0, 0);
        due.is("7: size ahead of beyond", x.copy(0, 5, -1, 1, -400), Due.SIZE);
        due.is("7: no such samples", x.copy(0, 0, 1, 1, 1), Due.BEYOND);
        due.is("7: no such samples", x.copy(0, 1, 0, 1, 1), Due.BEYOND);
        due.is("7: no such samples", x.copy(0, -1, 0, 1, 1), Due.BEYOND);
        due.is("7: none of none", x.copy(0, 0, 0, 1, 1), 0);
        x.play(0, 5, 0, 0);
        int[] sounds = {33, -33, 100, -100, 1};
        for (int i = 0; i < 5; i++) {
            x.put(0, i, sounds[i]);
        }
        due.is("7: from below 0", x.copy(0, -1, 2, 1, 1), Due.BEYOND);
        due.is("7: one too many", x.copy(0, 3, 3, 1, 1), Due.BEYOND);
        due.is("7: far too many", x.copy(0, 3, Integer.MAX_VALUE, 1, 1), Due.BEYOND);
        due.is("7: from far beyond", x.copy(0, Integer.MAX_VALUE, 3, 1, 1), Due.BEYOND);
        due.is("7: half", x.copy(0, 0, 5, 1, 50), 5);
        due.is("7: turned and cut", x.copy(0, 1, 3, 1, -400), 8);
        due.is("7: none at the end", x.copy(0, 5, 0, 1, 100), 8);
        int[] wanted = {16, -16, 50, -50, 0, 100, -100, 100};
        for (int i = 0; i < 8; i++) {
            due.is("7: copied sample " + i, x.sample(1, i), wanted[i]);
        }
        due.is("7: s keeps its samples", x.sample(0, -1), 5);
        due.is("7: of itself", x.copy(0, 2, 3, 0, 99), 8);
        due.is("7: of itself", x.sample(0, 2), 100);
        due.is("7: of itself", x.sample(0, 5), 99);
        due.is("7: of itself", x.sample(0, 6), -99);
        due.is("7: of itself, cut towards 0", x.sample(0, 7), 0);
        x.play(1, 390, 0, 0);
        due.is("7: beyond ahead of full", x.copy(0, 6, 3, 1, 1), Due.BEYOND);
        due.is("7: full", x.copy(0, 5, 3, 1, 1), Due.FULL);
        due.is("7: just full", x.copy(0, 5, 2, 1, 1), 400);
        copyIsAChange();
    }

    private static void copyIsAChange() {
        Desk x = new Desk();
        x.take(0, 0, 0, 0, 0);
        x.take(1, 0, 0, 0, 0);
        x.play(0, 40, 0, 0);
        x.play(1, 40, 0, 0);
        x.lay(0);
        x.lay(1);
        x.copy(0, 0, 1, 1, 100);
        due.is("7: s stays laid", x.frame(0, 0), 0);
        due.is("7: t is not laid", x.frame(1, 0), Due.NONE);
    }

    private static void putAndSample() {
        Desk x = new Desk();
        due.is("8: no take", x.put(6, 0, 0), Due.BEYOND);
        due.is("8: no take", x.put(-1, 0, 0), Due.BEYOND);
        due.is("8: missing ahead of beyond", x.put(0, 0, 101), Due.MISSING);
        due.is("9: no take", x.sample(6, 0), Due.BEYOND);
        due.is("9: no take", x.sample(-1, -1), Due.BEYOND);
        due.is("9: missing ahead of beyond", x.sample(0, -2), Due.MISSING);
        x.take(0, 0, 0, 0, 0);
        due.is("8: no sample yet", x.put(0, 0, 0), Due.BEYOND);
        due.is("9: no sample yet", x.sample(0, 0), Due.BEYOND);
        due.is("9: how many", x.sample(0, -1), 0);
        x.play(0, 41, 0, 0);
        due.is("8: -1 is no sample", x.put(0, -1, 0), Due.BEYOND);
        due.is("8: beyond the end", x.put(0, 41, 0), Due.BEYOND);
        due.is("8: too loud", x.put(0, 0, 101), Due.BEYOND);
        due.is("8: too loud", x.put(0, 0, -101), Due.BEYOND);
        due.is("8: put", x.put(0, 0, -100), 1);
        due.is("8: put", x.put(0, 40, 100), 1);
        due.is("9: sample", x.sample(0, 0), -100);
        due.is("9: sample", x.sample(0, 40), 100);
        due.is("9: another stays", x.sample(0, 1), 0);
        due.is("9: beyond the end", x.sample(0, 41), Due.BEYOND);
        due.is("9: below -1", x.sample(0, -2), Due.BEYOND);
        due.is("9: how many", x.sample(0, -1), 41);
        x.lay(0);
        x.put(0, 5, 101);
        due.is("8: refused, still laid", x.frame(0, 0) >= 0 ? 1 : 0, 1);
        x.put(0, 5, 7);
        due.is("8: not laid behind it", x.frame(0, 0), Due.NONE);
    }

    private static void roomIsSilent() {
        Desk x = new Desk();
        x.take(0, 4, 0, 0, 0);
        x.take(1, 0, 0, 0, 0);
        x.play(0, 30, 100, 4);
        x.play(1, 30, 100, 4);
        due.is("8: put into a room", x.put(0, 0, 50), 1);
        due.is("8: a wrong put into a room", x.put(0, 0, 101), Due.BEYOND);
        due.is("7: copy into a room", x.copy(1, 0, 30, 0, 100), 60);
        for (int i = 0; i < 60; i++) {
            due.is("9: a room's sample", x.sample(0, i), 0);
        }
        due.is("7: copy from a room", x.copy(0, 0, 10, 1, 400), 40);
        due.is("9: copied from a room", x.sample(1, 35), 0);
        due.is("11: a room's level", x.level(0, 5), 0);
        x.take(0, 0, 0, 0, 0);
        x.copy(1, 0, 1, 0, 100);
        due.is("4: a take in a room's place has sound", x.sample(0, 0), x.sample(1, 0));
    }

    private static void asKinds() {
        Desk x = new Desk();
        due.is("10: no take", x.as(6, 0), Due.BEYOND);
        due.is("10: kind ahead of missing", x.as(0, 5), Due.BEYOND);
        due.is("10: kind below", x.as(0, -1), Due.BEYOND);
        due.is("10: missing", x.as(0, 0), Due.MISSING);
        boolean[][] under = {
            {true, false, false, false, false},
            {true, true, false, false, false},
            {true, true, true, false, false},
            {true, false, false, true, false},
            {true, false, false, true, true},
        };
        for (int kind = 0; kind < 5; kind++) {
            x.take(kind, kind, 1, 2, 0);
            int beats = kind == 1 || kind == 2 ? 2 : 4;
            for (int above = 0; above < 5; above++) {
                due.is("10: kind " + kind + " as " + above, x.as(kind, above), under[kind][above] ? beats : Due.KIND);
            }
        }
    }

    private static void levelItself() {
        Desk x = new Desk();
        due.is("11: no take", x.level(-1, 0), Due.BEYOND);
        due.is("11: missing ahead of beyond", x.level(0, -1), Due.MISSING);
        x.take(0, 0, 0, 0, 0);
        due.is("11: no frame", x.level(0, 0), Due.BEYOND);
        x.play(0, 13, 0, 0);
        x.put(0, 0, 10);
        x.put(0, 9, -7);
        x.put(0, 10, 100);
        x.put(0, 12, -1);
        due.is("11: of ten", x.level(0, 0), 14);
        due.is("11: of those there are", x.level(0, 1), 3333);
        due.is("11: no frame", x.level(0, 2), Due.BEYOND);
        due.is("11: no frame", x.level(0, -1), Due.BEYOND);
        due.is("11: no frame", x.level(0, Integer.MAX_VALUE), Due.BEYOND);
        x.play(0, 7, 0, 0);
        due.is("11: of ten", x.level(0, 1), 1000);
        due.is("11: twenty samples are two frames", x.level(0, 2), Due.BEYOND);
        x.play(0, 380, 100, 3);
        int squares = 0;
        for (int i = 390; i < 400; i++) {
            squares += x.sample(0, i) * x.sample(0, i);
        }
        due.is("11: the last frame", x.level(0, 39), squares / 10);
        due.is("11: no frame", x.level(0, 40), Due.BEYOND);
    }
}
