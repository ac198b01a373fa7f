import java.util.ArrayList;
import java.util.Arrays;
import java.util.List;
import java.util.Random;

/** Desks as large as may be, which the model is too slow for, and calls with any numbers at all. */
final class BigDeskTest {
    private static final Due due = new Due();

    public static void main(String[] args) {
        for (int seed = 0; seed < 40; seed++) {
            layings(seed);
            bestInOrder(seed);
            fewInOrder(seed);
        }
        for (int seed = 0; seed < 3000; seed++) {
            anyCalls(seed);
        }
        due.end();
    }

    private static int beatsOf(int seed) {
        return seed % 2 == 0 ? 24 : 10 + new Random(seed).nextInt(15);
    }

    /** The same desk each time it is asked for: one desk's 512 calls don't do for all that is looked at. */
    private static Desk bigDesk(int seed) {
        Random random = new Random(seed);
        int beats = beatsOf(seed);
        Desk x = new Desk();
        x.score(beats);
        x.set(0, 1 + random.nextInt(20));
        x.set(1, random.nextInt(10));
        x.set(2, random.nextInt(3) * 100);
        x.set(3, random.nextInt(10));
        boolean alike = seed % 3 == 0;
        for (int t = 0; t < 6; t++) {
            int from = random.nextInt(beats);
            x.take(t, t == 0 ? 0 : random.nextInt(5), from, from + random.nextInt(beats - from), random.nextInt(1001));
            x.play(t, 300 + random.nextInt(101), alike ? 0 : random.nextInt(101), random.nextInt());
            for (int n = 0; n < 30 && !alike; n++) {
                x.mark(t, random.nextInt(beats), random.nextInt(4));
            }
            due.holds("13: there is a laying", x.lay(t) >= 0);
        }
        for (int n = 0; n < 3; n++) {
            x.bar(1 + random.nextInt(beats - 1), true);
        }
        x.keep(random.nextInt(beats), 0);
        return x;
    }

    private static void layings(int seed) {
        Desk x = bigDesk(seed);
        for (int t = 0; t < 6; t++) {
            int ahead = -1;
            for (int b = 0; b < beatsOf(seed); b++) {
                int f = x.frame(t, b);
                if (f != Due.BEYOND) {
                    due.holds("13: frames rise", f > ahead && f < 40);
                    ahead = f;
                }
            }
        }
    }

    private static int[] wayOf(Desk x, int beats) {
        int[] way = new int[beats];
        for (int b = 0; b < beats; b++) {
            way[b] = x.way(b);
        }
        return way;
    }

    private static void bestInOrder(int seed) {
        int[] aheadWay = null;
        int aheadValue = 0;
        int aheadJoins = 0;
        List<String> seen = new ArrayList<>();
        for (int k = 0; k < 20; k++) {
            Desk x = bigDesk(seed);
            int value = x.best(k);
            int[] way = wayOf(x, beatsOf(seed));
            int joins = x.joins();
            String name = "23: desk " + seed + ", best(" + k + ")";
            due.holds(name + " is a new way", !seen.contains(Arrays.toString(way)));
            seen.add(Arrays.toString(way));
            tellBack(x, way, value, name);
            if (k % 6 == 0) {
                heardAll(seed, k, way, name);
            }
            if (aheadWay != null) {
                boolean behind = value < aheadValue || value == aheadValue
                    && (joins > aheadJoins || joins == aheadJoins && Arrays.compare(way, aheadWay) > 0);
                due.holds(name + " is behind the one ahead", behind);
            }
            aheadWay = way;
            aheadValue = value;
            aheadJoins = joins;
        }
    }

    private static void tellBack(Desk x, int[] way, int value, String name) {
        for (int t : way) {
            x.tell(t);
        }
        x.tell(value);
        due.is(name + ", told back", x.check(), 0);
    }

    private static void heardAll(int seed, int k, int[] way, String name) {
        Desk x = bigDesk(seed);
        x.best(k);
        int made = x.made();
        int beat = 0;
        for (int i = 0; i < made; i++) {
            if (x.left() < 7) {
                x = bigDesk(seed);
                x.best(k);
            }
            int row = x.from(i, 2);
            due.holds(name + ", rows rise", row >= beat);
            beat = row;
            int take = x.from(i, 0);
            due.is(name + ", the row's take", take, way[row]);
            int sound = x.heard(i);
            due.holds(name + ", sounds are -100 to 100", sound >= -100 && sound <= 100);
            if (x.from(i, 3) == 0) {
                due.is(name + ", a sample as it is", sound, x.sample(take, x.from(i, 1)));
            }
        }
        due.is(name + ", no more", x.heard(made), Due.BEYOND);
    }

    private static void fewInOrder(int seed) {
        Desk first = bigDesk(seed);
        int best = first.best(0);
        int[] bestWay = wayOf(first, beatsOf(seed));
        int bestJoins = first.joins();
        int ahead = Integer.MIN_VALUE;
        for (int j = 0; j <= 24; j++) {
            Desk x = bigDesk(seed);
            int value = x.few(j);
            if (value == Due.NONE) {
                due.holds("24: none with " + j + " joins, none with fewer", ahead == Integer.MIN_VALUE && j < bestJoins);
                continue;
            }
            String name = "24: desk " + seed + ", few(" + j + ")";
            int[] way = wayOf(x, beatsOf(seed));
            due.holds(name + " has no more joins", x.joins() <= j);
            due.holds(name + " is no less than with fewer", value >= ahead);
            tellBack(x, way, value, name);
            if (j >= bestJoins) {
                due.is(name + " is the best", value, best);
                due.holds(name + " is the best way", Arrays.equals(way, bestWay));
            }
            ahead = value;
        }
    }

    private static int any(Random random) {
        switch (random.nextInt(12)) {
            case 0: return random.nextInt();
            case 1: return Integer.MIN_VALUE;
            case 2: return Integer.MAX_VALUE;
            case 3: return Due.BARRED + random.nextInt(7);
            case 4: return random.nextInt(500);
            case 5: return -random.nextInt(500);
            case 6: return random.nextInt(25);
            default: return random.nextInt(7) - 1;
        }
    }

    /** What the machine throws ends this test. */
    private static void anyCalls(int seed) {
        Random r = new Random(seed);
        Desk x = new Desk();
        for (int n = 0; n < 512; n++) {
            int a = any(r);
            int b = any(r);
            int c = any(r);
            int d = any(r);
            int e = any(r);
            switch (r.nextInt(36)) {
                case 0: x.score(r.nextInt(6) == 0 ? a : 1 + r.nextInt(24)); break;
                case 1: x.beat(a, b, c); break;
                case 2: case 32: x.take(a, b, c, d, e); break;
                case 3: if (r.nextInt(9) == 0) { x.tear(a); } break;
                case 4: case 33: x.play(a, b, c, d); break;
                case 5: case 34: x.copy(a, b, c, d, e); break;
                case 6: x.put(a, b, c); break;
                case 7: x.sample(a, b); break;
                case 8: x.as(a, b); break;
                case 9: x.level(a, b); break;
                case 10: x.hand(a, b, c); break;
                case 11: case 31: case 35: x.lay(a); break;
                case 12: x.frame(a, b); break;
                case 13: x.mark(a, b, c); break;
                case 14: x.worth(a, b); break;
                case 15: x.set(a, b); break;
                case 16: x.like(a, b, c, d); break;
                case 17: x.shift(a, b, c); break;
                case 18: x.cost(a, b, c); break;
                case 19: x.bar(a, r.nextBoolean()); break;
                case 20: x.keep(a, b); break;
                case 21: x.best(a); break;
                case 22: x.few(a); break;
                case 23: x.way(a); break;
                case 24: x.joins(); break;
                case 25: x.made(); break;
                case 26: x.heard(a); break;
                case 27: x.from(a, b); break;
                case 28: x.tell(a); break;
                case 29: x.check(); break;
                default: x.found(a); break;
            }
        }
        due.holds("7: any calls, desk " + seed, true);
    }
}
