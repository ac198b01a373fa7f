/** Promises 12 to 16: hand, lay, frame, mark, worth. */
final class LayingTest {
    private static final Due due = new Due();

    public static void main(String[] args) {
        handItself();
        layItself();
        layTies();
        layAtItsEdges();
        layOfParts();
        frameItself();
        markItself();
        worthItself();
        due.end();
    }

    private static Desk silentTake(int samples) {
        Desk x = new Desk();
        x.take(0, 0, 0, 0, 0);
        x.play(0, samples, 0, 0);
        return x;
    }

    /** Makes every sample of frame f the same: its level is that sound's square. */
    private static void fillFrame(Desk x, int t, int f, int sound) {
        for (int i = 10 * f; i < 10 * f + 10; i++) {
            x.put(t, i, sound);
        }
    }

    private static void handItself() {
        Desk x = new Desk();
        due.is("12: no take", x.hand(6, 0, 0), Due.BEYOND);
        due.is("12: missing ahead of beyond", x.hand(0, 9, -2), Due.MISSING);
        x.take(0, 1, 1, 2, 0);
        x.play(0, 31, 0, 0);
        due.is("12: it hasn't beat 0", x.hand(0, 0, 0), Due.BEYOND);
        due.is("12: it hasn't beat 3", x.hand(0, 3, 0), Due.BEYOND);
        due.is("12: f below -1", x.hand(0, 1, -2), Due.BEYOND);
        due.is("12: no frame 4", x.hand(0, 1, 4), Due.BEYOND);
        due.is("12: the last frame", x.hand(0, 2, 3), 1);
        due.is("12: lay", x.lay(0), 200);
        due.is("12: the hand's frame", x.frame(0, 2), 3);
        due.is("12: moved", x.hand(0, 2, 1), 1);
        due.is("12: not laid behind it", x.frame(0, 2), Due.NONE);
        due.is("12: lay", x.lay(0), 240);
        due.is("12: the hand's frame", x.frame(0, 2), 1);
        due.is("12: refused, still laid", x.hand(0, 2, 9), Due.BEYOND);
        due.is("12: refused, still laid", x.frame(0, 1), 0);
        due.is("12: off", x.hand(0, 2, -1), 1);
        due.is("12: lay", x.lay(0), 200);
        due.is("12: placed by the table", x.frame(0, 2), 3);
        x.hand(0, 1, 2);
        x.play(0, 30, 0, 0);
        due.is("12: a hand stays when samples come", x.lay(0), 200);
        due.is("12: a hand stays when samples come", x.frame(0, 1), 2);
        due.is("12: a hand stays when samples come", x.frame(0, 2), 5);
    }

    private static void layItself() {
        Desk x = new Desk();
        due.is("13: no take", x.lay(6), Due.BEYOND);
        due.is("13: no take", x.lay(-1), Due.BEYOND);
        due.is("13: missing", x.lay(0), Due.MISSING);
        x = silentTake(200);
        fillFrame(x, 0, 2, 10);
        fillFrame(x, 0, 4, 10);
        fillFrame(x, 0, 9, 10);
        due.is("13: levels by gaps", x.lay(0), 0 + 20 + 0 + 20 + 100 + 0 + 0);
        due.is("13: beat 0", x.frame(0, 0), 2);
        due.is("13: beat 1", x.frame(0, 1), 4);
        due.is("13: beat 2", x.frame(0, 2), 6);
        due.is("13: beat 3", x.frame(0, 3), 9);
    }

    private static void layTies() {
        Desk x = silentTake(50);
        due.is("13: five frames", x.lay(0), 500);
        int[] first = {0, 1, 2, 4};
        for (int b = 0; b < 4; b++) {
            due.is("13: the first by frames, beat " + b, x.frame(0, b), first[b]);
        }
        x = silentTake(80);
        x.hand(0, 3, 7);
        due.is("13: the first beat's ahead", x.lay(0), 440);
        int[] ahead = {0, 1, 4, 7};
        for (int b = 0; b < 4; b++) {
            due.is("13: the first beat's ahead, beat " + b, x.frame(0, b), ahead[b]);
        }
    }

    private static void layAtItsEdges() {
        Desk x = silentTake(30);
        due.is("13: three frames for four beats", x.lay(0), Due.BARRED);
        due.is("13: not laid", x.frame(0, 0), Due.NONE);
        x.play(0, 1, 0, 0);
        due.is("13: a fourth that begins", x.lay(0), 400 + 3 * 40);
        x.hand(0, 3, 2);
        due.is("13: no room ahead of a hand", x.lay(0), Due.BARRED);
        x.hand(0, 3, 3);
        x.hand(0, 0, 1);
        due.is("13: no room between hands", x.lay(0), Due.BARRED);
        x.hand(0, 0, 0);
        due.is("13: just room between hands", x.lay(0), 520);
        x.hand(0, 1, 2);
        x.hand(0, 2, 1);
        due.is("13: hands that fall", x.lay(0), Due.BARRED);
        x = new Desk();
        x.score(24);
        x.take(0, 0, 0, 0, 0);
        x.play(0, 400, 0, 0);
        due.is("13: 24 beats in 40 frames", x.lay(0), 2400 + 20 * (23 * 3 - 39));
        due.is("13: beat 0", x.frame(0, 0), 0);
        due.is("13: beat 23", x.frame(0, 23), 39);
        x.score(1);
        due.is("13: one beat", x.lay(0), 100);
        due.is("13: one beat", x.frame(0, 0), 0);
        x.beat(0, 10000, 40);
        due.is("13: far from loud", x.lay(0), 10000);
    }

    private static void layOfParts() {
        Desk x = new Desk();
        x.score(5);
        x.beat(1, 100, 9);
        x.beat(2, 400, 2);
        x.beat(3, 0, 7);
        x.take(1, 2, 2, 3, 10);
        x.play(1, 100, 0, 0);
        fillFrame(x, 1, 3, 20);
        due.is("13: a part's own beats alone", x.lay(1), 0);
        due.is("13: its first one", x.frame(1, 2), 3);
        due.is("13: its last one", x.frame(1, 3), 5);
    }

    private static void frameItself() {
        Desk x = new Desk();
        due.is("14: no take", x.frame(6, 0), Due.BEYOND);
        due.is("14: missing", x.frame(0, 0), Due.MISSING);
        x.take(0, 1, 1, 2, 0);
        x.play(0, 40, 0, 0);
        due.is("14: none ahead of beyond", x.frame(0, 0), Due.NONE);
        x.lay(0);
        due.is("14: it hasn't beat 0", x.frame(0, 0), Due.BEYOND);
        due.is("14: it hasn't beat 3", x.frame(0, 3), Due.BEYOND);
        due.is("14: beat 1", x.frame(0, 1), 0);
        due.is("14: beat 2", x.frame(0, 2), 3);
        x.mark(0, 1, 0);
        x.set(0, 5);
        x.bar(1, true);
        x.keep(1, 0);
        x.take(1, 0, 0, 0, 0);
        x.tear(1);
        due.is("14: still laid", x.frame(0, 2), 3);
    }

    private static void markItself() {
        Desk x = new Desk();
        due.is("15: no take", x.mark(-1, 0, 0), Due.BEYOND);
        due.is("15: missing ahead of kind", x.mark(0, 9, 9), Due.MISSING);
        x.take(0, 4, 0, 0, 0);
        due.is("15: kind ahead of beyond", x.mark(0, 9, 9), Due.KIND);
        due.is("15: a room has no marks", x.worth(0, 0), 1000);
        x.take(0, 1, 1, 2, 0);
        due.is("15: it hasn't beat 0", x.mark(0, 0, 0), Due.BEYOND);
        due.is("15: it hasn't beat 3", x.mark(0, 3, 0), Due.BEYOND);
        due.is("15: no mark 4", x.mark(0, 1, 4), Due.BEYOND);
        due.is("15: no mark -1", x.mark(0, 1, -1), Due.BEYOND);
        for (int n = 1; n <= 9; n++) {
            due.is("15: mark", x.mark(0, 2, 1), n);
        }
        due.is("15: full", x.mark(0, 2, 1), Due.FULL);
        due.is("15: another mark", x.mark(0, 2, 2), 1);
        due.is("15: another beat", x.mark(0, 1, 1), 1);
    }

    private static void worthItself() {
        Desk x = new Desk();
        due.is("16: no take", x.worth(6, 0), Due.BEYOND);
        due.is("16: missing", x.worth(0, 9), Due.MISSING);
        int[] marks = {-300, -100, -50, 200};
        for (int kind = 0; kind < 4; kind++) {
            x.take(kind, kind, 0, 1, 70);
            int plain = kind == 2 ? 1070 : 1000;
            due.is("16: plain worth of kind " + kind, x.worth(kind, 1), plain);
            for (int what = 0; what < 4; what++) {
                x.mark(kind, 1, what);
                x.mark(kind, 1, what);
                int times = kind == 3 && what < 3 ? 4 : 2;
                plain += times * marks[what];
                due.is("16: worth of kind " + kind + " by mark " + what, x.worth(kind, 1), plain);
            }
            due.is("16: another beat", x.worth(kind, 0), kind == 2 ? 1070 : 1000);
        }
        due.is("16: it hasn't beat 2", x.worth(1, 2), Due.BEYOND);
        due.is("16: no beat 4", x.worth(0, 4), Due.BEYOND);
        due.is("16: no beat -1", x.worth(0, -1), Due.BEYOND);
    }
}
