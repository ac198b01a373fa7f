import java.util.ArrayList;
import java.util.Arrays;
import java.util.Comparator;
import java.util.HashMap;
import java.util.List;
import java.util.Map;

/** The document read as plainly as can be: every laying and every way is tried. For small desks alone. */
final class Model {
    private static final int[] MARK = {-300, -100, -50, 200};
    private static final List<List<Integer>> KINDS_OF = List.of(
        List.of(0), List.of(0, 1), List.of(0, 1, 2), List.of(0, 3), List.of(0, 3, 4));

    private static final class Tape {
        int kind;
        int from;
        int to;
        int more;
        final List<Integer> samples = new ArrayList<>();
        final Map<Integer, Integer> hands = new HashMap<>();
        final Map<List<Integer>, Integer> marks = new HashMap<>();
        Map<Integer, Integer> placed;
    }

    private record Way(List<Integer> takes, int value, int joins) {
    }

    private record Made(int sound, int take, int index, int beat, int ramp) {
    }

    private int[] loud;
    private int[] length;
    private final Tape[] tapes = new Tape[6];
    private final int[] settings = {8, 3, 200, 4};
    private final Map<Integer, Integer> kept = new HashMap<>();
    private final List<Integer> bars = new ArrayList<>();
    private final List<Integer> told = new ArrayList<>();
    private final Map<Integer, Integer> found = new HashMap<>();
    private Way way;

    Model() {
        newScore(4);
    }

    private void newScore(int beats) {
        loud = new int[beats];
        length = new int[beats];
        Arrays.fill(loud, 100);
        Arrays.fill(length, 3);
    }

    private int no(int finding) {
        found.merge(finding, 1, Integer::sum);
        return finding;
    }

    private int beats() {
        return loud.length;
    }

    private static boolean in(int v, int low, int high) {
        return low <= v && v <= high;
    }

    private boolean whole(Tape tape) {
        return !KINDS_OF.get(tape.kind).contains(1);
    }

    private boolean has(Tape tape, int b) {
        return whole(tape) ? in(b, 0, beats() - 1) : in(b, tape.from, tape.to);
    }

    private int first(Tape tape) {
        return whole(tape) ? 0 : tape.from;
    }

    private int last(Tape tape) {
        return whole(tape) ? beats() - 1 : tape.to;
    }

    private void changed(Tape tape) {
        if (tape != null) {
            tape.placed = null;
        }
        way = null;
    }

    int score(int beats) {
        if (!in(beats, 1, 24)) {
            return no(Due.BEYOND);
        }
        newScore(beats);
        bars.clear();
        kept.clear();
        for (int t = 0; t < 6; t++) {
            if (tapes[t] != null) {
                tapes[t].marks.clear();
                tapes[t].hands.clear();
                changed(tapes[t]);
                if (!whole(tapes[t]) && tapes[t].to >= beats) {
                    tapes[t] = null;
                }
            }
        }
        way = null;
        return beats;
    }

    int beat(int b, int l, int n) {
        if (!in(b, 0, beats() - 1) || !in(l, 0, 10000) || !in(n, 1, 40)) {
            return no(Due.BEYOND);
        }
        loud[b] = l;
        length[b] = n;
        for (Tape tape : tapes) {
            changed(tape);
        }
        return 1;
    }

    int take(int t, int kind, int from, int to, int more) {
        if (!in(t, 0, 5) || !in(kind, 0, 4)) {
            return no(Due.BEYOND);
        }
        if ((kind == 1 || kind == 2) && (!in(from, 0, beats() - 1) || !in(to, 0, beats() - 1) || from > to)) {
            return no(Due.BEYOND);
        }
        if (kind == 2 && !in(more, 0, 1000)) {
            return no(Due.BEYOND);
        }
        Tape tape = new Tape();
        tape.kind = kind;
        tape.from = from;
        tape.to = to;
        tape.more = kind == 2 ? more : 0;
        tapes[t] = tape;
        way = null;
        return 1;
    }

    int tear(int t) {
        if (!in(t, 0, 5)) {
            return no(Due.BEYOND);
        }
        if (tapes[t] == null) {
            return no(Due.MISSING);
        }
        tapes[t] = null;
        way = null;
        return 1;
    }

    int play(int t, int n, int g, int seed) {
        if (!in(t, 0, 5) || !in(g, 0, 100)) {
            return no(Due.BEYOND);
        }
        if (tapes[t] == null) {
            return no(Due.MISSING);
        }
        if (n < 0) {
            return no(Due.SIZE);
        }
        if ((long) n + tapes[t].samples.size() > 400) {
            return no(Due.FULL);
        }
        int x = seed;
        for (int i = 0; i < n; i++) {
            x = 1103515245 * x + 12345;
            add(tapes[t], ((x >> 16) & 0xffff) % (2 * g + 1) - g);
        }
        changed(tapes[t]);
        return tapes[t].samples.size();
    }

    private void add(Tape tape, int v) {
        tape.samples.add(tape.kind == 4 ? 0 : v);
    }

    int copy(int s, int from, int n, int t, int num) {
        if (!in(s, 0, 5) || !in(t, 0, 5) || !in(num, -400, 400)) {
            return no(Due.BEYOND);
        }
        if (tapes[s] == null || tapes[t] == null) {
            return no(Due.MISSING);
        }
        if (n < 0) {
            return no(Due.SIZE);
        }
        if (from < 0 || (long) from + n > tapes[s].samples.size()) {
            return no(Due.BEYOND);
        }
        if (n + tapes[t].samples.size() > 400) {
            return no(Due.FULL);
        }
        for (int v : new ArrayList<>(tapes[s].samples.subList(from, from + n))) {
            add(tapes[t], Math.min(100, Math.max(-100, v * num / 100)));
        }
        changed(tapes[t]);
        return tapes[t].samples.size();
    }

    int put(int t, int i, int v) {
        if (!in(t, 0, 5)) {
            return no(Due.BEYOND);
        }
        if (tapes[t] == null) {
            return no(Due.MISSING);
        }
        if (!in(i, 0, tapes[t].samples.size() - 1) || !in(v, -100, 100)) {
            return no(Due.BEYOND);
        }
        tapes[t].samples.set(i, tapes[t].kind == 4 ? 0 : v);
        changed(tapes[t]);
        return 1;
    }

    int sample(int t, int i) {
        if (!in(t, 0, 5)) {
            return no(Due.BEYOND);
        }
        if (tapes[t] == null) {
            return no(Due.MISSING);
        }
        if (i == -1) {
            return tapes[t].samples.size();
        }
        return in(i, 0, tapes[t].samples.size() - 1) ? tapes[t].samples.get(i) : no(Due.BEYOND);
    }

    int as(int t, int kind) {
        if (!in(t, 0, 5) || !in(kind, 0, 4)) {
            return no(Due.BEYOND);
        }
        if (tapes[t] == null) {
            return no(Due.MISSING);
        }
        return KINDS_OF.get(tapes[t].kind).contains(kind) ? last(tapes[t]) - first(tapes[t]) + 1 : no(Due.KIND);
    }

    private static int frames(Tape tape) {
        int frames = 0;
        while (10 * frames < tape.samples.size()) {
            frames++;
        }
        return frames;
    }

    private static int levelOf(Tape tape, int f) {
        int sum = 0;
        int many = 0;
        for (int i = 0; i < tape.samples.size(); i++) {
            if (i / 10 == f) {
                sum += tape.samples.get(i) * tape.samples.get(i);
                many++;
            }
        }
        return many == 0 ? 0 : sum / many;
    }

    int level(int t, int f) {
        if (!in(t, 0, 5)) {
            return no(Due.BEYOND);
        }
        if (tapes[t] == null) {
            return no(Due.MISSING);
        }
        return in(f, 0, frames(tapes[t]) - 1) ? levelOf(tapes[t], f) : no(Due.BEYOND);
    }

    int hand(int t, int b, int f) {
        if (!in(t, 0, 5)) {
            return no(Due.BEYOND);
        }
        if (tapes[t] == null) {
            return no(Due.MISSING);
        }
        if (!has(tapes[t], b) || !in(f, -1, frames(tapes[t]) - 1)) {
            return no(Due.BEYOND);
        }
        tapes[t].hands.remove(b);
        if (f >= 0) {
            tapes[t].hands.put(b, f);
        }
        changed(tapes[t]);
        return 1;
    }

    int lay(int t) {
        if (!in(t, 0, 5)) {
            return no(Due.BEYOND);
        }
        if (tapes[t] == null) {
            return no(Due.MISSING);
        }
        Laying laying = new Laying(tapes[t]);
        laying.go(first(tapes[t]), -1, 0);
        if (laying.least == null) {
            return no(Due.BARRED);
        }
        tapes[t].placed = laying.least;
        way = null;
        return laying.leastSum;
    }

    /** Givings come in the order of their frames, so only a smaller sum is taken. */
    private final class Laying {
        final Tape tape;
        final int[] levels;
        final int[] now = new int[24];
        Map<Integer, Integer> least;
        int leastSum;

        Laying(Tape tape) {
            this.tape = tape;
            levels = new int[frames(tape)];
            for (int f = 0; f < levels.length; f++) {
                levels[f] = levelOf(tape, f);
            }
        }

        void go(int b, int ahead, int sum) {
            if (b > last(tape)) {
                if (least == null || sum < leastSum) {
                    leastSum = sum;
                    least = new HashMap<>();
                    for (int i = first(tape); i <= last(tape); i++) {
                        least.put(i, now[i]);
                    }
                    least.put(b, now[b - 1] + length[b - 1]);
                }
                return;
            }
            for (int f = ahead + 1; f < levels.length; f++) {
                if (!tape.hands.containsKey(b) || tape.hands.get(b) == f) {
                    now[b] = f;
                    int gap = b == first(tape) ? 0 : 20 * Math.abs(f - ahead - length[b - 1]);
                    go(b + 1, f, sum + gap + Math.abs(levels[f] - loud[b]));
                }
            }
        }
    }

    int frame(int t, int b) {
        if (!in(t, 0, 5)) {
            return no(Due.BEYOND);
        }
        if (tapes[t] == null) {
            return no(Due.MISSING);
        }
        if (tapes[t].placed == null) {
            return no(Due.NONE);
        }
        return has(tapes[t], b) ? tapes[t].placed.get(b) : no(Due.BEYOND);
    }

    int mark(int t, int b, int what) {
        if (!in(t, 0, 5)) {
            return no(Due.BEYOND);
        }
        if (tapes[t] == null) {
            return no(Due.MISSING);
        }
        if (tapes[t].kind == 4) {
            return no(Due.KIND);
        }
        if (!has(tapes[t], b) || !in(what, 0, 3)) {
            return no(Due.BEYOND);
        }
        if (tapes[t].marks.getOrDefault(List.of(b, what), 0) == 9) {
            return no(Due.FULL);
        }
        way = null;
        return tapes[t].marks.merge(List.of(b, what), 1, Integer::sum);
    }

    private int worthOf(Tape tape, int b) {
        int worth = 1000 + tape.more;
        for (int what = 0; what < 4; what++) {
            int each = tape.kind == 3 && MARK[what] < 0 ? 2 * MARK[what] : MARK[what];
            worth += each * tape.marks.getOrDefault(List.of(b, what), 0);
        }
        return worth;
    }

    int worth(int t, int b) {
        if (!in(t, 0, 5)) {
            return no(Due.BEYOND);
        }
        if (tapes[t] == null) {
            return no(Due.MISSING);
        }
        return has(tapes[t], b) ? worthOf(tapes[t], b) : no(Due.BEYOND);
    }

    int set(int what, int v) {
        int[] low = {1, 0, 0, 0};
        int[] high = {20, 9, 1000, 9};
        if (!in(what, 0, 3) || !in(v, low[what], high[what])) {
            return no(Due.BEYOND);
        }
        int was = settings[what];
        settings[what] = v;
        way = null;
        return was;
    }

    private static int at(Tape tape, int i) {
        return in(i, 0, tape.samples.size() - 1) ? tape.samples.get(i) : 0;
    }

    private int likeness(Tape s, Tape t, int b, int d) {
        int products = 0;
        int squares = 0;
        for (int i = -settings[0]; i < settings[0]; i++) {
            int x = at(s, 10 * s.placed.get(b) + i);
            int y = at(t, 10 * t.placed.get(b) + i + d);
            products += x * y;
            squares += x * x + y * y;
        }
        return squares == 0 ? 0 : 2000 * products / squares;
    }

    private int shiftOf(Tape s, Tape t, int b) {
        int best = 0;
        for (int far = 1; far <= settings[1]; far++) {
            for (int d : new int[] {-far, far}) {
                if (likeness(s, t, b, d) > likeness(s, t, b, best)) {
                    best = d;
                }
            }
        }
        return best;
    }

    private int costOf(Tape s, Tape t, int b) {
        int apart = levelOf(s, s.placed.get(b)) - levelOf(t, t.placed.get(b));
        return settings[2] + 1000 - likeness(s, t, b, shiftOf(s, t, b)) + Math.abs(apart);
    }

    private int askJoin(int s, int t, int b) {
        if (!in(s, 0, 5) || !in(t, 0, 5)) {
            return Due.BEYOND;
        }
        if (tapes[s] == null || tapes[t] == null) {
            return Due.MISSING;
        }
        if (tapes[s].placed == null || tapes[t].placed == null) {
            return Due.NONE;
        }
        return has(tapes[t], b) && (has(tapes[s], b) || has(tapes[s], b - 1)) ? 0 : Due.BEYOND;
    }

    int like(int s, int t, int b, int d) {
        int finding = in(d, -20, 20) ? askJoin(s, t, b) : Due.BEYOND;
        return finding != 0 ? no(finding) : likeness(tapes[s], tapes[t], b, d);
    }

    int shift(int s, int t, int b) {
        int finding = askJoin(s, t, b);
        return finding != 0 ? no(finding) : shiftOf(tapes[s], tapes[t], b);
    }

    int cost(int s, int t, int b) {
        int finding = askJoin(s, t, b);
        return finding != 0 ? no(finding) : costOf(tapes[s], tapes[t], b);
    }

    int bar(int b, boolean on) {
        if (!in(b, 1, beats() - 1)) {
            return no(Due.BEYOND);
        }
        boolean was = bars.remove((Integer) b);
        if (on) {
            bars.add(b);
        }
        way = null;
        return was == on ? 0 : 1;
    }

    int keep(int b, int t) {
        if (!in(b, 0, beats() - 1) || !in(t, -1, 5)) {
            return no(Due.BEYOND);
        }
        int was = kept.getOrDefault(b, -1);
        kept.put(b, t);
        way = null;
        return was;
    }

    private boolean stands(int t, int b) {
        return in(t, 0, 5) && tapes[t] != null && tapes[t].placed != null && has(tapes[t], b)
            && (kept.getOrDefault(b, -1) == -1 || kept.get(b) == t);
    }

    private List<Way> allWays() {
        List<Way> ways = new ArrayList<>();
        ways.add(new Way(List.of(), 0, 0));
        Map<List<Integer>, Integer> costs = new HashMap<>();
        for (int b = 0; b < beats(); b++) {
            List<Way> longer = new ArrayList<>();
            for (Way sofar : ways) {
                for (int t = 0; t < 6; t++) {
                    int ahead = b == 0 ? t : sofar.takes.get(b - 1);
                    if (!stands(t, b) || ahead != t && bars.contains(b)) {
                        continue;
                    }
                    List<Integer> takes = new ArrayList<>(sofar.takes);
                    takes.add(t);
                    int cost = 0;
                    if (ahead != t) {
                        int at = b;
                        int to = t;
                        cost = costs.computeIfAbsent(List.of(ahead, t, b), key -> costOf(tapes[ahead], tapes[to], at));
                    }
                    int joins = sofar.joins + (ahead != t ? 1 : 0);
                    longer.add(new Way(takes, sofar.value + worthOf(tapes[t], b) - cost, joins));
                }
            }
            ways = longer;
        }
        ways.sort(Comparator.comparingInt((Way w) -> -w.value).thenComparingInt(w -> w.joins)
            .thenComparing(Way::takes, Model::byTakes));
        return ways;
    }

    private static int byTakes(List<Integer> one, List<Integer> other) {
        for (int b = 0; b < one.size(); b++) {
            if (!one.get(b).equals(other.get(b))) {
                return one.get(b) - other.get(b);
            }
        }
        return 0;
    }

    int best(int k) {
        if (!in(k, 0, 19)) {
            return no(Due.BEYOND);
        }
        List<Way> ways = allWays();
        if (k >= ways.size()) {
            return no(Due.NONE);
        }
        way = ways.get(k);
        return way.value;
    }

    int few(int j) {
        if (j < 0) {
            return no(Due.BEYOND);
        }
        for (Way one : allWays()) {
            if (one.joins <= j) {
                way = one;
                return way.value;
            }
        }
        return no(Due.NONE);
    }

    int way(int b) {
        if (way == null) {
            return no(Due.NONE);
        }
        return in(b, 0, beats() - 1) ? way.takes.get(b) : no(Due.BEYOND);
    }

    int joins() {
        return way == null ? no(Due.NONE) : way.joins;
    }

    private List<Made> all() {
        List<Made> all = new ArrayList<>();
        int b = 0;
        while (b < beats()) {
            int row = b;
            int t = way.takes.get(b);
            while (b < beats() && way.takes.get(b) == t) {
                b++;
            }
            Tape tape = tapes[t];
            Tape ahead = row == 0 ? null : tapes[way.takes.get(row - 1)];
            int begin = 10 * tape.placed.get(row) + (ahead == null ? 0 : shiftOf(ahead, tape, row));
            int end = b == beats() ? tape.samples.size() : 10 * tape.placed.get(b);
            for (int i = begin; i < end; i++) {
                if (!in(i, 0, tape.samples.size() - 1)) {
                    continue;
                }
                int k = i - begin;
                int r = settings[3];
                boolean ramp = ahead != null && k < r;
                int sound = at(tape, i);
                if (ramp) {
                    int both = (k + 1) * sound + (r - k) * at(ahead, 10 * ahead.placed.get(row) + k);
                    sound = (int) Math.floor((double) both / (r + 1));
                }
                all.add(new Made(sound, t, i, row, ramp ? 1 : 0));
            }
        }
        return all;
    }

    int made() {
        return way == null ? no(Due.NONE) : all().size();
    }

    int heard(int i) {
        if (way == null) {
            return no(Due.NONE);
        }
        List<Made> all = all();
        return in(i, 0, all.size() - 1) ? all.get(i).sound : no(Due.BEYOND);
    }

    int from(int i, int what) {
        if (way == null) {
            return no(Due.NONE);
        }
        List<Made> all = all();
        if (!in(i, 0, all.size() - 1) || !in(what, 0, 3)) {
            return no(Due.BEYOND);
        }
        Made one = all.get(i);
        return List.of(one.take, one.index, one.beat, one.ramp).get(what);
    }

    int tell(int v) {
        if (told.size() == 30) {
            return no(Due.FULL);
        }
        told.add(v);
        return told.size();
    }

    int check() {
        List<Integer> numbers = new ArrayList<>(told);
        told.clear();
        int value = 0;
        for (int b = 0; b < beats(); b++) {
            if (numbers.size() <= b || !stands(numbers.get(b), b)) {
                return 1 + b;
            }
            int t = numbers.get(b);
            value += worthOf(tapes[t], b);
            if (b > 0 && numbers.get(b - 1) != t) {
                if (bars.contains(b)) {
                    return 1 + b;
                }
                value -= costOf(tapes[numbers.get(b - 1)], tapes[t], b);
            }
        }
        if (numbers.size() == beats() || numbers.get(beats()) != value) {
            return 100;
        }
        return numbers.size() > beats() + 1 ? 101 : 0;
    }

    int found(int finding) {
        return in(finding, Due.BARRED, Due.BEYOND) ? found.getOrDefault(finding, 0) : no(Due.BEYOND);
    }
}
