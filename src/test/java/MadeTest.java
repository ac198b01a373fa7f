/** Promises 27 to 29: made, heard, from. */
final class MadeTest {
    private static final Due due = new Due();

    public static void main(String[] args) {
        findingsOfMade();
        oneTake();
        joinWithRamp();
        joinWithShift();
        leftOutAheadOfTheStart();
        rowsOfParts();
        nothingLeft();
        rampOfNone();
        due.end();
    }

    private static void fromIs(String what, Desk x, int i, int... wanted) {
        for (int w = 0; w < wanted.length; w++) {
            due.is(what + ", from(" + i + ", " + w + ")", x.from(i, w), wanted[w]);
        }
    }

    private static void findingsOfMade() {
        Desk x = new Desk();
        due.is("27: none", x.made(), Due.NONE);
        due.is("28: none ahead of beyond", x.heard(-1), Due.NONE);
        due.is("29: none ahead of beyond", x.from(-1, 4), Due.NONE);
    }

    private static void oneTake() {
        Desk x = new Desk();
        x.take(0, 0, 0, 0, 0);
        x.play(0, 65, 100, 8);
        x.hand(0, 0, 2);
        x.lay(0);
        x.best(0);
        due.is("27: from beat 0 to the end", x.made(), 45);
        for (int i = 0; i < 45; i++) {
            due.is("28: heard " + i, x.heard(i), x.sample(0, 20 + i));
            fromIs("29", x, i, 0, 20 + i, 0, 0);
        }
        due.is("28: beyond", x.heard(45), Due.BEYOND);
        due.is("28: beyond", x.heard(-1), Due.BEYOND);
        due.is("29: beyond", x.from(45, 0), Due.BEYOND);
        due.is("29: beyond", x.from(-1, 0), Due.BEYOND);
        due.is("29: another what", x.from(0, 4), Due.BEYOND);
        due.is("29: another what", x.from(0, -1), Due.BEYOND);
    }

    /** Takes 0 (beats 0, 1 of a way) and 1 (beats 2, 3), each four frames and more, no shifts. */
    private static Desk joined(int samples) {
        Desk x = new Desk();
        for (int t = 0; t < 2; t++) {
            x.take(t, 0, 0, 0, 0);
            x.play(t, samples, 0, 0);
        }
        for (int b = 0; b < 4; b++) {
            x.keep(b, b / 2);
        }
        x.set(1, 0);
        return x;
    }

    private static void placeAll(Desk x, int t, int... frames) {
        for (int b = 0; b < frames.length; b++) {
            x.hand(t, b, frames[b]);
        }
        x.lay(t);
    }

    private static void joinWithRamp() {
        Desk x = joined(60);
        int[] leaving = {7, -8, 9, -100, 55};
        int[] coming = {-7, 33, -100, 1, 44};
        for (int k = 0; k < 5; k++) {
            x.put(0, 30 + k, leaving[k]);
            x.put(1, 40 + k, coming[k]);
        }
        placeAll(x, 0, 1, 2, 3, 4);
        placeAll(x, 1, 0, 2, 4, 5);
        x.best(0);
        due.is("27: two rows", x.made(), 20 + 20);
        fromIs("29: the last of row 0", x, 19, 0, 29, 0, 0);
        int[] wanted = {4, 3, -3, 0};
        int[] parts = {-7 + 28, 66 - 24, -300 + 18, 4 - 100};
        for (int k = 0; k < 4; k++) {
            due.is("28: ramp " + k, x.heard(20 + k), Math.floorDiv(parts[k], 5));
            fromIs("29: ramp " + k, x, 20 + k, 1, 40 + k, 2, 1);
        }
        due.is("28: the first one by hand", x.heard(20), wanted[0]);
        due.is("28: cut down, not towards 0", x.heard(22), -57);
        due.is("28: cut down, not towards 0", x.heard(23), -20);
        due.is("28: behind the ramp", x.heard(24), 44);
        fromIs("29: behind the ramp", x, 24, 1, 44, 2, 0);
        x.set(3, 1);
        x.best(0);
        due.is("28: R 1", x.heard(20), 0);
        due.is("28: R 1, behind it", x.heard(21), 33);
        x.put(1, 40, -8);
        x.lay(1);
        x.best(0);
        due.is("28: R 1, cut down", x.heard(20), -1);
    }

    private static void joinWithShift() {
        Desk x = joined(60);
        x.set(1, 3);
        x.set(0, 1);
        x.put(0, 30, 50);
        x.put(1, 43, 50);
        x.put(1, 44, 20);
        placeAll(x, 0, 1, 2, 3, 4);
        placeAll(x, 1, 0, 2, 4, 5);
        due.is("19: the shift", x.shift(0, 1, 2), 3);
        x.best(0);
        due.is("27: three less", x.made(), 20 + 17);
        fromIs("29: behind the join", x, 20, 1, 43, 2, 1);
        due.is("28: the ramp begins with the shift", x.heard(20), (50 + 4 * 50) / 5);
        due.is("28: the next of the ramp", x.heard(21), 2 * 20 / 5);
        x.put(1, 43, 0);
        x.put(1, 44, 0);
        x.put(1, 38, 50);
        x.lay(1);
        due.is("19: the shift", x.shift(0, 1, 2), -2);
        x.best(0);
        due.is("27: two more", x.made(), 20 + 22);
        fromIs("29: behind the join", x, 20, 1, 38, 2, 1);
        due.is("28: like ones", x.heard(20), 50);
    }

    private static void leftOutAheadOfTheStart() {
        Desk x = new Desk();
        x.score(2);
        x.set(0, 4);
        x.take(0, 0, 0, 0, 0);
        x.take(1, 1, 1, 1, 0);
        x.play(0, 60, 0, 0);
        x.play(1, 30, 0, 0);
        x.put(0, 32, 100);
        x.put(0, 33, 40);
        x.put(1, 0, 100);
        x.put(1, 1, 10);
        placeAll(x, 0, 0, 3);
        x.hand(1, 1, 0);
        x.lay(1);
        x.keep(0, 0);
        x.keep(1, 1);
        due.is("19: ahead of the first sample", x.shift(0, 1, 1), -2);
        x.best(0);
        due.is("27: what isn't there is left out", x.made(), 30 + 30);
        fromIs("29: the first that is there", x, 30, 1, 0, 1, 1);
        due.is("28: those left out are counted", x.heard(30), (3 * 100 + 2 * 100) / 5);
        due.is("28: those left out are counted", x.heard(31), (4 * 10 + 40) / 5);
        fromIs("29: the last of the ramp", x, 31, 1, 1, 1, 1);
        fromIs("29: behind the ramp", x, 32, 1, 2, 1, 0);
    }

    private static void rowsOfParts() {
        Desk x = new Desk();
        x.set(1, 0);
        x.beat(1, 100, 2);
        x.take(0, 1, 0, 1, 0);
        x.take(1, 1, 2, 3, 0);
        x.play(0, 45, 0, 0);
        x.play(1, 25, 0, 0);
        x.put(0, 44, 90);
        x.put(1, 4, 50);
        x.hand(0, 0, 0);
        x.hand(0, 1, 2);
        x.hand(1, 2, 0);
        x.hand(1, 3, 1);
        x.lay(0);
        x.lay(1);
        x.set(3, 9);
        x.best(0);
        due.is("27: to the beat behind a part", x.made(), 40 + 25);
        due.is("28: a ramp over what is there of s", x.heard(44), (5 * 50 + 5 * 90) / 10);
        fromIs("29: its last", x, 48, 1, 8, 2, 1);
        fromIs("29: behind it", x, 49, 1, 9, 2, 0);
        x.beat(1, 100, 3);
        x.lay(0);
        x.lay(1);
        x.best(0);
        due.is("27: no further than its end", x.made(), 45 + 25);
        due.is("28: a ramp with nothing of s", x.heard(45 + 4), 5 * 50 / 10);
        x.beat(1, 100, 40);
        x.lay(0);
        x.lay(1);
        x.best(0);
        due.is("27: no further than its end", x.made(), 45 + 25);
        fromIs("29: its last", x, 44, 0, 44, 0, 0);
    }

    private static void nothingLeft() {
        Desk x = new Desk();
        x.score(3);
        x.set(0, 1);
        x.set(1, 9);
        x.take(0, 0, 0, 0, 0);
        x.take(1, 0, 0, 0, 0);
        x.play(0, 30, 0, 0);
        x.play(1, 21, 0, 0);
        x.lay(0);
        x.put(0, 20, 5);
        x.put(1, 20, 0);
        x.put(0, 10, 70);
        x.put(1, 19, 70);
        x.lay(0);
        x.lay(1);
        x.keep(0, 0);
        x.keep(1, 1);
        x.keep(2, 0);
        due.is("19: nine later", x.shift(0, 1, 1), 9);
        x.best(0);
        due.is("26: two joins", x.joins(), 2);
        int back = x.shift(1, 0, 2);
        due.is("27: one sample of take 1", x.made(), 10 + 1 + 10 - back);
        fromIs("29: that one", x, 10, 1, 19, 1, 1);
        fromIs("29: the next row", x, 11, 0, 20 + back, 2, 1);
        x.keep(1, 0);
        x.keep(2, 1);
        x.put(1, 19, 0);
        x.put(0, 20, 99);
        x.put(1, 20, 1);
        x.put(0, 10, 0);
        x.put(0, 29, 0);
        x.lay(0);
        x.lay(1);
        due.is("19: no shift", x.shift(0, 1, 2), 0);
        x.best(0);
        due.is("27: the last sample", x.made(), 21);
        x.set(0, 5);
        x.put(0, 15, 100);
        x.put(0, 20, 0);
        x.put(1, 20, 90);
        x.lay(0);
        x.lay(1);
        due.is("19: five later", x.shift(0, 1, 2), 5);
        x.best(0);
        due.is("27: nothing behind its end", x.made(), 20);
        due.is("28: no more", x.heard(20), Due.BEYOND);
        due.is("26: a join is there still", x.joins(), 1);
    }

    private static void rampOfNone() {
        Desk x = joined(60);
        x.put(0, 30, 100);
        x.put(1, 40, 10);
        placeAll(x, 0, 1, 2, 3, 4);
        placeAll(x, 1, 0, 2, 4, 5);
        x.set(3, 0);
        x.best(0);
        due.is("28: R 0", x.heard(20), 10);
        fromIs("29: R 0", x, 20, 1, 40, 2, 0);
    }
}
