/**
 * A desk on which nothing is as at first: five beats, takes of all kinds (0 TAKE, 1 PART of beats 0 to 2,
 * 2 AGAIN of beats 2 to 4, 3 LIVE, 4 ROOM, all laid; 5 is MISSING), hands, marks, settings, a bar, kept
 * beats, THE WAY with joins and shifts, and two numbers that wait.
 */
final class BusyDesk {
    static final int BEATS = 5;
    static final int[] SAMPLES = {95, 73, 88, 81, 71};
    static final int[] FRAMES = {10, 8, 9, 9, 8};
    /** What THE WAY makes, and the best way with its value, whose first two beats are told. */
    static final int MADE = 97;
    static final int[] BEST = {1, 1, 2, 2, 2, 4853};

    private BusyDesk() {
    }

    static void make(Desk x) {
        x.score(BEATS);
        x.beat(0, 50, 2);
        x.beat(1, 900, 2);
        x.beat(2, 400, 1);
        x.beat(3, 10, 4);
        takes(x);
        x.hand(0, 1, 3);
        x.hand(1, 2, 6);
        x.hand(2, 3, 5);
        x.hand(3, 0, 0);
        x.hand(4, 0, 1);
        x.mark(0, 2, 1);
        x.mark(1, 0, 3);
        x.mark(2, 4, 0);
        x.mark(3, 3, 2);
        x.mark(3, 3, 3);
        for (int t = 0; t < 5; t++) {
            x.lay(t);
        }
        x.set(0, 5);
        x.set(1, 2);
        x.set(2, 150);
        x.set(3, 3);
        x.bar(1, true);
        x.keep(0, 1);
        x.keep(4, 2);
        x.best(2);
        x.tell(1);
        x.tell(1);
    }

    private static void takes(Desk x) {
        x.take(0, 0, 0, 0, 0);
        x.play(0, 95, 60, 7);
        x.put(0, 2, -100);
        x.take(1, 1, 0, 2, 0);
        x.play(1, 73, 40, 9);
        x.take(2, 2, 2, 4, 300);
        x.play(2, 68, 50, -3);
        x.copy(0, 3, 20, 2, -150);
        x.take(3, 3, 0, 0, 0);
        x.play(3, 1, 100, 5);
        x.copy(0, 5, 80, 3, 90);
        x.take(4, 4, 0, 0, 0);
        x.play(4, 71, 100, 1);
    }
}
