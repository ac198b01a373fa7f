import java.util.Arrays;

/** A desk for one playing put together from many takes; ../shared/DOC.md tells what each call answers. */
public final class TakeDesk {
    private static final int BEYOND = -1000001;
    private static final int MISSING = -1000002;
    private static final int KIND = -1000003;
    private static final int SIZE = -1000004;
    private static final int FULL = -1000005;
    private static final int NONE = -1000006;
    private static final int BARRED = -1000007;
    private static final int FINDINGS = 7;
    /** What a private question answers when nothing stands against the act; no finding is 0. */
    private static final int CLEAR = 0;

    private static final int TAKES = 6;
    private static final int MOST_BEATS = 24;
    private static final int FIRST_BEATS = 4;
    private static final int FIRST_LOUDNESS = 100;
    private static final int MOST_LOUDNESS = 10000;
    private static final int FIRST_LENGTH = 3;
    private static final int MOST_LENGTH = 40;

    private static final int MOST_SAMPLES = 400;
    private static final int MOST_SOUND = 100;
    private static final int FRAME_SIZE = 10;
    private static final int MOST_FRAMES = 40;
    private static final int MOST_COPY = 400;

    private static final int PART = 1;
    private static final int AGAIN = 2;
    private static final int LIVE = 3;
    private static final int ROOM = 4;
    private static final int KINDS = 5;
    /** The kind that each kind is under; -1 ends the chain. */
    private static final int[] KIND_ABOVE = {-1, 0, 1, 0, 3};
    private static final int MOST_MORE = 1000;

    private static final int MARKS = 4;
    private static final int[] MARK_WORTH = {-300, -100, -50, 200};
    private static final int MOST_MARKS = 9;
    private static final int PLAIN_WORTH = 1000;

    private static final int GAP_WEIGHT = 20;
    private static final int NO_SUM = -1;

    private static final int MOST_WINDOW = 20;
    private static final int MOST_REACH = 9;
    private static final int MOST_CONSTANT = 1000;
    private static final int MOST_RAMP = 9;
    private static final int MOST_ASKED_SHIFT = 20;
    private static final int FULL_LIKENESS = 1000;
    private static final int UNKNOWN = -1;

    private static final int MOST_RANK = 19;
    private static final int COLUMNS = 24;
    /** A way's key is its value times this, less its joins (23 at most): the greater key is ahead. */
    private static final int KEY_UNIT = 64;
    private static final int NO_WAY = -2000000000;
    private static final int CLOSED = -1;
    private static final int TOP_CELLS = MOST_BEATS * TAKES * COLUMNS;

    private static final int MOST_WAITING = 30;
    private static final int OTHER_VALUE = 100;
    private static final int TOO_MANY = 101;

    private final Score score;
    private final Take[] takes;
    private final Layer layer;
    private final Joiner joiner;
    private final Finder finder;
    private final Playing playing;
    private final int[] foundCounts;
    private final int[] waiting;
    private int waitingCount;

    public TakeDesk() {
        Score newScore = new Score();
        Take[] newTakes = new Take[TAKES];
        for (int t = 0; t < TAKES; t++) {
            newTakes[t] = new Take();
        }
        Joiner newJoiner = new Joiner(newTakes);
        score = newScore;
        takes = newTakes;
        layer = new Layer();
        joiner = newJoiner;
        finder = new Finder(newScore, newTakes, newJoiner);
        playing = new Playing(newTakes, newJoiner);
        foundCounts = new int[FINDINGS];
        waiting = new int[MOST_WAITING];
        waitingCount = 0;
    }

    // ---- score, takes, samples

    public int score(int beats) {
        if (!isWithin(beats, 1, MOST_BEATS)) {
            return refuse(BEYOND);
        }
        score.renew(beats);
        for (int t = 0; t < TAKES; t++) {
            takes[t].meetScore(beats);
        }
        playing.known = false;
        return beats;
    }

    public int beat(int b, int loud, int length) {
        if (!score.holds(b) || !isWithin(loud, 0, MOST_LOUDNESS) || !isWithin(length, 1, MOST_LENGTH)) {
            return refuse(BEYOND);
        }
        score.loudness[b] = loud;
        score.lengths[b] = length;
        for (int t = 0; t < TAKES; t++) {
            changeTake(t);
        }
        return 1;
    }

    public int take(int t, int kind, int from, int to, int more) {
        if (!isTake(t) || !isKind(kind)) {
            return refuse(BEYOND);
        }
        boolean told = isUnder(kind, PART);
        boolean worthTold = kind == AGAIN;
        if (told && (!score.holds(from) || !score.holds(to) || from > to)) {
            return refuse(BEYOND);
        }
        if (worthTold && !isWithin(more, 0, MOST_MORE)) {
            return refuse(BEYOND);
        }
        takes[t].begin(kind, told ? from : 0, told ? to : score.beats - 1, worthTold ? more : 0);
        changeTake(t);
        return 1;
    }

    public int tear(int t) {
        int against = askTake(t);
        if (against != CLEAR) {
            return refuse(against);
        }
        takes[t].here = false;
        changeTake(t);
        return 1;
    }

    public int play(int t, int n, int g, int seed) {
        int against = isWithin(g, 0, MOST_SOUND) ? askTake(t) : BEYOND;
        if (against != CLEAR) {
            return refuse(against);
        }
        if (n < 0) {
            return refuse(SIZE);
        }
        if (n > takes[t].room()) {
            return refuse(FULL);
        }
        int x = seed;
        for (int i = 0; i < n; i++) {
            x = 1103515245 * x + 12345;
            takes[t].append((x >>> 16) % (2 * g + 1) - g);
        }
        changeTake(t);
        return takes[t].count;
    }

    public int copy(int s, int from, int n, int t, int num) {
        int against = isWithin(num, -MOST_COPY, MOST_COPY) ? askPair(s, t) : BEYOND;
        if (against != CLEAR) {
            return refuse(against);
        }
        if (n < 0) {
            return refuse(SIZE);
        }
        if (!isWithin(from, 0, takes[s].count) || n > takes[s].count - from) {
            return refuse(BEYOND);
        }
        if (n > takes[t].room()) {
            return refuse(FULL);
        }
        for (int i = 0; i < n; i++) {
            int sound = takes[s].soundAt(from + i) * num / 100;
            takes[t].append(Math.max(-MOST_SOUND, Math.min(MOST_SOUND, sound)));
        }
        changeTake(t);
        return takes[t].count;
    }

    public int put(int t, int i, int v) {
        int against = askTake(t);
        if (against != CLEAR) {
            return refuse(against);
        }
        if (!isWithin(i, 0, takes[t].count - 1) || !isWithin(v, -MOST_SOUND, MOST_SOUND)) {
            return refuse(BEYOND);
        }
        takes[t].write(i, v);
        changeTake(t);
        return 1;
    }

    public int sample(int t, int i) {
        int against = askTake(t);
        if (against != CLEAR) {
            return refuse(against);
        }
        if (i == -1) {
            return takes[t].count;
        }
        if (!isWithin(i, 0, takes[t].count - 1)) {
            return refuse(BEYOND);
        }
        return takes[t].soundAt(i);
    }

    public int as(int t, int kind) {
        int against = isKind(kind) ? askTake(t) : BEYOND;
        if (against != CLEAR) {
            return refuse(against);
        }
        if (!isUnder(takes[t].kind, kind)) {
            return refuse(KIND);
        }
        return takes[t].last - takes[t].first + 1;
    }

    public int level(int t, int f) {
        int against = askTake(t);
        if (against != CLEAR) {
            return refuse(against);
        }
        if (!isWithin(f, 0, takes[t].frameCount() - 1)) {
            return refuse(BEYOND);
        }
        return takes[t].levelAt(f);
    }

    // ---- laying, marks

    public int hand(int t, int b, int f) {
        int against = askTakeBeat(t, b);
        if (against != CLEAR) {
            return refuse(against);
        }
        if (!isWithin(f, -1, takes[t].frameCount() - 1)) {
            return refuse(BEYOND);
        }
        takes[t].hands[b] = f;
        changeTake(t);
        return 1;
    }

    public int lay(int t) {
        int against = askTake(t);
        if (against != CLEAR) {
            return refuse(against);
        }
        int sum = layer.place(takes[t], score);
        if (sum == NO_SUM) {
            return refuse(BARRED);
        }
        joiner.forgetTake(t);
        playing.known = false;
        return sum;
    }

    public int frame(int t, int b) {
        int against = askTake(t);
        if (against != CLEAR) {
            return refuse(against);
        }
        if (!takes[t].laid) {
            return refuse(NONE);
        }
        if (!takes[t].has(b)) {
            return refuse(BEYOND);
        }
        return takes[t].frames[b];
    }

    public int mark(int t, int b, int what) {
        int against = askTake(t);
        if (against != CLEAR) {
            return refuse(against);
        }
        if (takes[t].kind == ROOM) {
            return refuse(KIND);
        }
        if (!takes[t].has(b) || !isWithin(what, 0, MARKS - 1)) {
            return refuse(BEYOND);
        }
        int cell = b * MARKS + what;
        if (takes[t].marks[cell] >= MOST_MARKS) {
            return refuse(FULL);
        }
        takes[t].marks[cell]++;
        playing.known = false;
        return takes[t].marks[cell];
    }

    public int worth(int t, int b) {
        int against = askTakeBeat(t, b);
        if (against != CLEAR) {
            return refuse(against);
        }
        return takes[t].worthAt(b);
    }

    // ---- joins

    public int set(int what, int v) {
        if (!isSetting(what, v)) {
            return refuse(BEYOND);
        }
        int was = setting(what);
        switch (what) {
            case 0:
                joiner.window = v;
                joiner.forgetAll();
                break;
            case 1:
                joiner.reach = v;
                joiner.forgetAll();
                break;
            case 2:
                joiner.constant = v;
                break;
            default:
                playing.ramp = v;
                break;
        }
        playing.known = false;
        return was;
    }

    public int like(int s, int t, int b, int d) {
        int against = isWithin(d, -MOST_ASKED_SHIFT, MOST_ASKED_SHIFT) ? askJoin(s, t, b) : BEYOND;
        if (against != CLEAR) {
            return refuse(against);
        }
        return joiner.likenessBy(s, t, b, d);
    }

    public int shift(int s, int t, int b) {
        int against = askJoin(s, t, b);
        if (against != CLEAR) {
            return refuse(against);
        }
        return joiner.shiftAt(s, t, b);
    }

    public int cost(int s, int t, int b) {
        int against = askJoin(s, t, b);
        if (against != CLEAR) {
            return refuse(against);
        }
        return joiner.costAt(s, t, b);
    }

    public int bar(int b, boolean on) {
        if (b == 0 || !score.holds(b)) {
            return refuse(BEYOND);
        }
        boolean isNew = score.barred[b] != on;
        score.barred[b] = on;
        playing.known = false;
        return isNew ? 1 : 0;
    }

    public int keep(int b, int t) {
        if (!score.holds(b) || !isWithin(t, -1, TAKES - 1)) {
            return refuse(BEYOND);
        }
        int was = score.kept[b];
        score.kept[b] = t;
        playing.known = false;
        return was;
    }

    // ---- ways

    public int best(int k) {
        if (!isWithin(k, 0, MOST_RANK)) {
            return refuse(BEYOND);
        }
        return adopt(finder.findRanked(k));
    }

    public int few(int j) {
        if (j < 0) {
            return refuse(BEYOND);
        }
        return adopt(finder.findWithin(Math.min(j, score.beats - 1)));
    }

    public int way(int b) {
        if (!playing.known) {
            return refuse(NONE);
        }
        if (!score.holds(b)) {
            return refuse(BEYOND);
        }
        return playing.row[b];
    }

    public int joins() {
        if (!playing.known) {
            return refuse(NONE);
        }
        return playing.joinCount();
    }

    public int made() {
        if (!playing.known) {
            return refuse(NONE);
        }
        return playing.madeCount;
    }

    public int heard(int i) {
        if (!playing.known) {
            return refuse(NONE);
        }
        if (!isWithin(i, 0, playing.madeCount - 1)) {
            return refuse(BEYOND);
        }
        return playing.soundOf(playing.stretchOf(i), i);
    }

    public int from(int i, int what) {
        if (!playing.known) {
            return refuse(NONE);
        }
        if (!isWithin(i, 0, playing.madeCount - 1) || !isWithin(what, 0, 3)) {
            return refuse(BEYOND);
        }
        Stretch stretch = playing.stretchOf(i);
        switch (what) {
            case 0:
                return stretch.take;
            case 1:
                return stretch.indexOf(i);
            case 2:
                return stretch.beat;
            default:
                return playing.isInRamp(stretch, i) ? 1 : 0;
        }
    }

    public int tell(int v) {
        if (waitingCount >= MOST_WAITING) {
            return refuse(FULL);
        }
        waiting[waitingCount] = v;
        waitingCount++;
        return waitingCount;
    }

    public int check() {
        int told = waitingCount;
        waitingCount = 0;
        int value = 0;
        for (int b = 0; b < score.beats; b++) {
            if (b >= told || !mayStand(b)) {
                return 1 + b;
            }
            value += takes[waiting[b]].worthAt(b);
            if (b > 0 && waiting[b] != waiting[b - 1]) {
                value -= joiner.costAt(waiting[b - 1], waiting[b], b);
            }
        }
        if (told <= score.beats || waiting[score.beats] != value) {
            return OTHER_VALUE;
        }
        return told > score.beats + 1 ? TOO_MANY : 0;
    }

    public int found(int finding) {
        if (!isWithin(finding, BARRED, BEYOND)) {
            return refuse(BEYOND);
        }
        return foundCounts[BEYOND - finding];
    }

    // ---- what the calls ask

    private int refuse(int which) {
        int place = BEYOND - which;
        if (place >= 0 && place < FINDINGS) {
            foundCounts[place]++;
        }
        return which;
    }

    private int askTake(int t) {
        if (!isTake(t)) {
            return BEYOND;
        }
        return takes[t].here ? CLEAR : MISSING;
    }

    private int askTakeBeat(int t, int b) {
        int against = askTake(t);
        if (against != CLEAR) {
            return against;
        }
        return takes[t].has(b) ? CLEAR : BEYOND;
    }

    private int askPair(int s, int t) {
        if (!isTake(s) || !isTake(t)) {
            return BEYOND;
        }
        return takes[s].here && takes[t].here ? CLEAR : MISSING;
    }

    private int askJoin(int s, int t, int b) {
        int against = askPair(s, t);
        if (against != CLEAR) {
            return against;
        }
        if (!takes[s].laid || !takes[t].laid) {
            return NONE;
        }
        return takes[t].has(b) && takes[s].leadsTo(b) ? CLEAR : BEYOND;
    }

    private boolean isSetting(int what, int v) {
        switch (what) {
            case 0:
                return isWithin(v, 1, MOST_WINDOW);
            case 1:
                return isWithin(v, 0, MOST_REACH);
            case 2:
                return isWithin(v, 0, MOST_CONSTANT);
            case 3:
                return isWithin(v, 0, MOST_RAMP);
            default:
                return false;
        }
    }

    private int setting(int what) {
        switch (what) {
            case 0:
                return joiner.window;
            case 1:
                return joiner.reach;
            case 2:
                return joiner.constant;
            default:
                return playing.ramp;
        }
    }

    /** Whether the number told for beat b may stand in a way behind the one told ahead of it. */
    private boolean mayStand(int b) {
        int t = waiting[b];
        if (!isTake(t) || !finder.fits(t, b)) {
            return false;
        }
        return b == 0 || t == waiting[b - 1] || !score.barred[b];
    }

    private void changeTake(int t) {
        takes[t].laid = false;
        playing.known = false;
    }

    private int adopt(int key) {
        if (key == NO_WAY) {
            return refuse(NONE);
        }
        playing.follow(finder.traced, score.beats);
        return valueOf(key);
    }

    private static int valueOf(int key) {
        return Math.floorDiv(key + KEY_UNIT - 1, KEY_UNIT);
    }

    private static boolean isWithin(int v, int least, int most) {
        return v >= least && v <= most;
    }

    private static boolean isTake(int t) {
        return isWithin(t, 0, TAKES - 1);
    }

    private static boolean isKind(int kind) {
        return isWithin(kind, 0, KINDS - 1);
    }

    private static boolean isUnder(int kind, int above) {
        int k = kind;
        for (int step = 0; step < KINDS && k >= 0 && k < KINDS; step++) {
            if (k == above) {
                return true;
            }
            k = KIND_ABOVE[k];
        }
        return false;
    }

    private static final class Score {
        int beats;
        final int[] loudness = new int[MOST_BEATS];
        final int[] lengths = new int[MOST_BEATS];
        final boolean[] barred = new boolean[MOST_BEATS];
        final int[] kept = new int[MOST_BEATS];

        Score() {
            renew(FIRST_BEATS);
        }

        void renew(int newBeats) {
            beats = newBeats;
            for (int b = 0; b < MOST_BEATS; b++) {
                loudness[b] = FIRST_LOUDNESS;
                lengths[b] = FIRST_LENGTH;
                barred[b] = false;
                kept[b] = -1;
            }
        }

        boolean holds(int b) {
            return b >= 0 && b < beats;
        }
    }

    private static final class Take {
        boolean here;
        boolean laid;
        int kind;
        int first;
        int last;
        int more;
        int count;
        final int[] samples = new int[MOST_SAMPLES];
        final int[] hands = new int[MOST_BEATS];
        /** One longer than the beats: the beat behind the last one has a frame, too. */
        final int[] frames = new int[MOST_BEATS + 1];
        final int[] marks = new int[MOST_BEATS * MARKS];

        void begin(int newKind, int newFirst, int newLast, int newMore) {
            here = true;
            kind = newKind;
            first = newFirst;
            last = newLast;
            more = newMore;
            count = 0;
            clearBeats();
        }

        void clearBeats() {
            laid = false;
            Arrays.fill(hands, -1);
            Arrays.fill(marks, 0);
        }

        void meetScore(int beats) {
            clearBeats();
            if (!isUnder(kind, PART)) {
                last = beats - 1;
            } else if (last >= beats) {
                here = false;
            }
        }

        boolean has(int b) {
            return b >= first && b <= last;
        }

        /** Whether it has beat b or the one ahead of b: it can be left at b then. */
        boolean leadsTo(int b) {
            return b >= first && b <= last + 1;
        }

        int room() {
            return MOST_SAMPLES - count;
        }

        void append(int v) {
            if (count < MOST_SAMPLES) {
                count++;
                write(count - 1, v);
            }
        }

        void write(int i, int v) {
            if (i >= 0 && i < count) {
                samples[i] = kind == ROOM ? 0 : v;
            }
        }

        int soundAt(int i) {
            return i >= 0 && i < count ? samples[i] : 0;
        }

        int frameCount() {
            return (count + FRAME_SIZE - 1) / FRAME_SIZE;
        }

        /** 0 where there is no such frame: that is what a join behind the last frame asks for. */
        int levelAt(int f) {
            if (f < 0 || f >= MOST_FRAMES) {
                return 0;
            }
            int begin = f * FRAME_SIZE;
            int end = begin + FRAME_SIZE < count ? begin + FRAME_SIZE : count;
            int squares = 0;
            for (int i = begin; i < end; i++) {
                squares += samples[i] * samples[i];
            }
            return end > begin ? squares / (end - begin) : 0;
        }

        int frameAt(int b) {
            return b >= 0 && b <= MOST_BEATS ? frames[b] : 0;
        }

        int startOf(int b) {
            return b >= 0 && b <= MOST_BEATS ? FRAME_SIZE * frames[b] : 0;
        }

        int worthAt(int b) {
            if (!has(b)) {
                return 0;
            }
            int blameTimes = isUnder(kind, LIVE) ? 2 : 1;
            int sum = PLAIN_WORTH + more;
            for (int m = 0; m < MARKS; m++) {
                int times = MARK_WORTH[m] < 0 ? blameTimes : 1;
                sum += times * MARK_WORTH[m] * marks[b * MARKS + m];
            }
            return sum;
        }
    }

    /**
     * The table of least distance: the sum from each beat at each frame on to the take's last beat. Each
     * beat needs a frame for every beat ahead of it and behind it, so its lowest and highest rise by one.
     */
    private static final class Layer {
        final int[] levels = new int[MOST_FRAMES];
        final int[] sums = new int[MOST_BEATS * MOST_FRAMES];
        final int[] nextFrames = new int[MOST_BEATS * MOST_FRAMES];

        /** The least sum, with the take laid; NO_SUM, with nothing changed, if there is no giving. */
        int place(Take take, Score score) {
            int frameCount = Math.min(take.frameCount(), MOST_FRAMES);
            for (int f = 0; f < frameCount; f++) {
                levels[f] = take.levelAt(f);
            }
            int highest = frameCount - 1;
            for (int b = take.last; b >= take.first; b--) {
                for (int f = b - take.first; f <= highest; f++) {
                    sumUp(take, score, b, f, highest + 1);
                }
                highest--;
            }
            int start = leastStart(take.first, highest + 1);
            if (start < 0) {
                return NO_SUM;
            }
            write(take, score, start);
            return sums[take.first * MOST_FRAMES + start];
        }

        private void sumUp(Take take, Score score, int b, int f, int highestNext) {
            int cell = b * MOST_FRAMES + f;
            sums[cell] = NO_SUM;
            nextFrames[cell] = f;
            if (take.hands[b] >= 0 && take.hands[b] != f) {
                return;
            }
            int rest = b == take.last ? 0 : leastRest(b, f, score.lengths[b], highestNext);
            if (rest != NO_SUM) {
                sums[cell] = Math.abs(levels[f] - score.loudness[b]) + rest;
            }
        }

        /** Only a smaller sum takes the place of one before: the first frames win among alike ones. */
        private int leastRest(int b, int f, int length, int highestNext) {
            int least = NO_SUM;
            int below = (b + 1) * MOST_FRAMES;
            for (int next = f + 1; next <= highestNext; next++) {
                int rest = sums[below + next];
                if (rest == NO_SUM) {
                    continue;
                }
                int sum = rest + GAP_WEIGHT * Math.abs(next - f - length);
                if (least == NO_SUM || sum < least) {
                    least = sum;
                    nextFrames[b * MOST_FRAMES + f] = next;
                }
            }
            return least;
        }

        private int leastStart(int first, int highest) {
            int start = -1;
            int least = NO_SUM;
            for (int f = 0; f <= highest; f++) {
                int sum = sums[first * MOST_FRAMES + f];
                if (sum != NO_SUM && (least == NO_SUM || sum < least)) {
                    least = sum;
                    start = f;
                }
            }
            return start;
        }

        private void write(Take take, Score score, int start) {
            int f = start;
            for (int b = take.first; b <= take.last; b++) {
                take.frames[b] = f;
                f = nextFrames[b * MOST_FRAMES + f];
            }
            take.frames[take.last + 1] = take.frames[take.last] + score.lengths[take.last];
            take.laid = true;
        }
    }

    /**
     * Likeness, shift and cost. Shifts and losses (costs without the constant) are kept: they are asked
     * of laid takes alone, so they hold until one of the two is laid anew or window or reach change.
     */
    private static final class Joiner {
        final Take[] takes;
        int window = 8;
        int reach = 3;
        int constant = 200;
        final int[] ahead = new int[2 * MOST_WINDOW];
        final int[] behind = new int[2 * MOST_WINDOW + 2 * MOST_REACH];
        final int[] shifts = new int[MOST_BEATS * TAKES * TAKES];
        final int[] losses = new int[MOST_BEATS * TAKES * TAKES];

        Joiner(Take[] deskTakes) {
            takes = deskTakes;
            Arrays.fill(losses, UNKNOWN);
        }

        void forgetAll() {
            Arrays.fill(losses, UNKNOWN);
        }

        void forgetTake(int t) {
            for (int b = 0; b < MOST_BEATS; b++) {
                for (int other = 0; other < TAKES; other++) {
                    losses[cellOf(t, other, b)] = UNKNOWN;
                    losses[cellOf(other, t, b)] = UNKNOWN;
                }
            }
        }

        int likenessBy(int s, int t, int b, int d) {
            listen(ahead, 2 * window, takes[s], takes[s].startOf(b) - window);
            listen(behind, 2 * window, takes[t], takes[t].startOf(b) - window + d);
            return liken(0, squaresOf(ahead) + squaresOf(behind));
        }

        int shiftAt(int s, int t, int b) {
            int cell = cellOf(s, t, b);
            if (losses[cell] == UNKNOWN) {
                measure(s, t, b);
            }
            return shifts[cell];
        }

        int costAt(int s, int t, int b) {
            int cell = cellOf(s, t, b);
            if (losses[cell] == UNKNOWN) {
                measure(s, t, b);
            }
            return constant + losses[cell];
        }

        private static int cellOf(int s, int t, int b) {
            return (b * TAKES + s) * TAKES + t;
        }

        private void measure(int s, int t, int b) {
            listen(ahead, 2 * window, takes[s], takes[s].startOf(b) - window);
            listen(behind, 2 * (window + reach), takes[t], takes[t].startOf(b) - window - reach);
            int aheadSquares = squaresOf(ahead);
            int behindSquares = squaresOf(behind);
            int bestShift = -reach;
            int greatest = liken(0, aheadSquares + behindSquares);
            for (int offset = 1; offset <= 2 * reach; offset++) {
                int gone = behind[offset - 1];
                int come = behind[offset + 2 * window - 1];
                behindSquares += come * come - gone * gone;
                int likeness = liken(offset, aheadSquares + behindSquares);
                int d = offset - reach;
                if (likeness > greatest || likeness == greatest && Math.abs(d) < Math.abs(bestShift)) {
                    greatest = likeness;
                    bestShift = d;
                }
            }
            int levelsApart = Math.abs(takes[s].levelAt(takes[s].frameAt(b)) - takes[t].levelAt(takes[t].frameAt(b)));
            shifts[cellOf(s, t, b)] = bestShift;
            losses[cellOf(s, t, b)] = FULL_LIKENESS - greatest + levelsApart;
        }

        private static void listen(int[] into, int size, Take take, int begin) {
            for (int i = 0; i < size && i < into.length; i++) {
                int at = begin + i;
                into[i] = at >= 0 && at < take.count ? take.samples[at] : 0;
            }
        }

        private int squaresOf(int[] sounds) {
            int sum = 0;
            for (int i = 0; i < 2 * window; i++) {
                sum += sounds[i] * sounds[i];
            }
            return sum;
        }

        private int liken(int offset, int squares) {
            int products = 0;
            for (int i = 0; i < 2 * window; i++) {
                products += ahead[i] * behind[i + offset];
            }
            return squares == 0 ? 0 : 2000 * products / squares;
        }
    }

    /**
     * Ways found from the last beat back: a cell holds the key of one way on from a beat with a take,
     * and the cell of the next beat that it goes on with. Back to front, the order of what is left of
     * two ways is the order of the ways, so each list needs no more than is asked of the whole.
     */
    private static final class Finder {
        final Score score;
        final Take[] takes;
        final Joiner joiner;
        final int[] keys = new int[TOP_CELLS + COLUMNS];
        final int[] links = new int[TOP_CELLS + COLUMNS];
        final int[] steps = new int[TAKES];
        final int[] heads = new int[TAKES];
        final int[] traced = new int[MOST_BEATS];

        Finder(Score deskScore, Take[] deskTakes, Joiner deskJoiner) {
            score = deskScore;
            takes = deskTakes;
            joiner = deskJoiner;
        }

        boolean fits(int t, int b) {
            return takes[t].here && takes[t].laid && takes[t].has(b)
                && (score.kept[b] == -1 || score.kept[b] == t);
        }

        /** The key of the way at place k in order, which is traced then; NO_WAY if there is none. */
        int findRanked(int k) {
            for (int b = score.beats - 1; b >= 0; b--) {
                for (int t = 0; t < TAKES; t++) {
                    int base = cellOf(b, t, 0);
                    fillCells(base, k + 1, NO_WAY);
                    if (fits(t, b) && b == score.beats - 1) {
                        keys[base] = gainOf(t, b);
                    } else if (fits(t, b)) {
                        weighSteps(b, t);
                        merge(b + 1, k, base, gainOf(t, b));
                    }
                }
            }
            fillCells(TOP_CELLS, k + 1, NO_WAY);
            Arrays.fill(steps, 0);
            merge(0, k, TOP_CELLS, 0);
            return trace(TOP_CELLS + k);
        }

        /** The ways on from beat b with any take, in order, into the cells from base on. */
        private void merge(int b, int k, int base, int gain) {
            Arrays.fill(heads, 0);
            for (int place = 0; place <= k; place++) {
                int next = nextInOrder(b, k);
                if (next < 0) {
                    return;
                }
                int cell = cellOf(b, next, heads[next]);
                keys[base + place] = gain + keys[cell] - steps[next];
                links[base + place] = cell;
                heads[next]++;
            }
        }

        private int nextInOrder(int b, int k) {
            int next = -1;
            int greatest = NO_WAY;
            for (int t = 0; t < TAKES; t++) {
                if (steps[t] == CLOSED || heads[t] > k) {
                    continue;
                }
                int key = keys[cellOf(b, t, heads[t])];
                if (key != NO_WAY && (next < 0 || key - steps[t] > greatest)) {
                    next = t;
                    greatest = key - steps[t];
                }
            }
            return next;
        }

        /** The key of the first way in order with so many joins at most; NO_WAY if there is none. */
        int findWithin(int most) {
            for (int b = score.beats - 1; b >= 0; b--) {
                for (int t = 0; t < TAKES; t++) {
                    int base = cellOf(b, t, 0);
                    boolean ends = b == score.beats - 1 && fits(t, b);
                    fillCells(base, most + 1, ends ? gainOf(t, b) : NO_WAY);
                    if (!ends && fits(t, b)) {
                        weighSteps(b, t);
                        offerSteps(b, t, most);
                    }
                }
            }
            keys[TOP_CELLS] = NO_WAY;
            for (int t = 0; t < TAKES; t++) {
                offer(TOP_CELLS, cellOf(0, t, most), 0);
            }
            return trace(TOP_CELLS);
        }

        private void offerSteps(int b, int t, int most) {
            int gain = gainOf(t, b);
            for (int left = 0; left <= most; left++) {
                for (int next = 0; next < TAKES; next++) {
                    int leftThen = next == t ? left : left - 1;
                    if (leftThen >= 0 && steps[next] != CLOSED) {
                        offer(cellOf(b, t, left), cellOf(b + 1, next, leftThen), gain - steps[next]);
                    }
                }
            }
        }

        /** Takes are offered in their order, so an alike one behind doesn't take the place. */
        private void offer(int cell, int link, int gain) {
            if (keys[link] != NO_WAY && (keys[cell] == NO_WAY || keys[link] + gain > keys[cell])) {
                keys[cell] = keys[link] + gain;
                links[cell] = link;
            }
        }

        private void fillCells(int base, int size, int key) {
            for (int i = 0; i < size; i++) {
                keys[base + i] = key;
            }
        }

        private int gainOf(int t, int b) {
            return KEY_UNIT * takes[t].worthAt(b);
        }

        /** What going on from beat b with take t to each take takes from the key. */
        private void weighSteps(int b, int t) {
            for (int next = 0; next < TAKES; next++) {
                if (next == t) {
                    steps[next] = 0;
                } else if (score.barred[b + 1] || !fits(next, b + 1)) {
                    steps[next] = CLOSED;
                } else {
                    steps[next] = KEY_UNIT * joiner.costAt(t, next, b + 1) + 1;
                }
            }
        }

        private int trace(int top) {
            if (keys[top] == NO_WAY) {
                return NO_WAY;
            }
            int cell = top;
            for (int b = 0; b < score.beats; b++) {
                cell = links[cell];
                traced[b] = cell / COLUMNS % TAKES;
            }
            return keys[top];
        }

        private static int cellOf(int b, int t, int column) {
            return (b * TAKES + t) * COLUMNS + column;
        }
    }

    /** One row of beats with one take, as it is made. */
    private static final class Stretch {
        int take;
        int beat;
        /** The take ahead of the join and the join's start there; -1 if there is no join. */
        int aheadTake;
        int aheadStart;
        /** Where it begins in its take, with what isn't there; low and high are what is there. */
        int start;
        int low;
        int high;
        /** Where it begins in what is made. */
        int madeFrom;

        int size() {
            return high - low;
        }

        int indexOf(int i) {
            return low + i - madeFrom;
        }
    }

    /** The way that was found last, and what is made by it. */
    private static final class Playing {
        final Take[] takes;
        final Joiner joiner;
        boolean known;
        int ramp = 4;
        final int[] row = new int[MOST_BEATS];
        final Stretch[] stretches = new Stretch[MOST_BEATS];
        int stretchCount;
        int madeCount;

        Playing(Take[] deskTakes, Joiner deskJoiner) {
            takes = deskTakes;
            joiner = deskJoiner;
            for (int r = 0; r < MOST_BEATS; r++) {
                stretches[r] = new Stretch();
            }
        }

        void follow(int[] way, int beats) {
            stretchCount = 0;
            madeCount = 0;
            for (int b = 0; b < beats; b++) {
                row[b] = way[b];
            }
            int first = 0;
            for (int b = 1; b <= beats; b++) {
                if (b == beats || row[b] != row[first]) {
                    addStretch(first, b, b == beats);
                    first = b;
                }
            }
            known = true;
        }

        private void addStretch(int first, int behind, boolean isLast) {
            Stretch stretch = stretches[stretchCount];
            Take take = takes[row[first]];
            stretch.take = row[first];
            stretch.beat = first;
            stretch.aheadTake = -1;
            stretch.aheadStart = 0;
            stretch.start = take.startOf(first);
            if (first > 0) {
                stretch.aheadTake = row[first - 1];
                stretch.aheadStart = takes[stretch.aheadTake].startOf(first);
                stretch.start += joiner.shiftAt(stretch.aheadTake, stretch.take, first);
            }
            int end = isLast ? take.count : take.startOf(behind);
            stretch.low = Math.max(0, stretch.start);
            stretch.high = Math.max(stretch.low, Math.min(end, take.count));
            stretch.madeFrom = madeCount;
            madeCount += stretch.size();
            stretchCount++;
        }

        int joinCount() {
            return stretchCount - 1;
        }

        Stretch stretchOf(int i) {
            int r = 0;
            while (r < stretchCount - 1 && i >= stretches[r].madeFrom + stretches[r].size()) {
                r++;
            }
            return stretches[r];
        }

        boolean isInRamp(Stretch stretch, int i) {
            return stretch.aheadTake >= 0 && stretch.indexOf(i) - stretch.start < ramp;
        }

        int soundOf(Stretch stretch, int i) {
            int index = stretch.indexOf(i);
            int sound = takes[stretch.take].soundAt(index);
            if (!isInRamp(stretch, i)) {
                return sound;
            }
            int k = index - stretch.start;
            int aheadSound = takes[stretch.aheadTake].soundAt(stretch.aheadStart + k);
            return Math.floorDiv((k + 1) * sound + (ramp - k) * aheadSound, ramp + 1);
        }
    }
}
