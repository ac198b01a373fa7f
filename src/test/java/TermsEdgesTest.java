/** Paragraphs 1 to 3 of the Terms, sentence by sentence: what they name as least, most, first, empty or alike. */
final class TermsEdgesTest {
    private static final int TAKE = 0;
    private static final int PART = 1;
    private static final int AGAIN = 2;
    private static final int LIVE = 3;
    private static final int ROOM = 4;
    private static final Due due = new Due();

    public static void main(String[] args) {
        callsOfOneObject();
        quotientsAreCutTowardsZero();
        beatsOfTheScore();
        loudnessAndLengthAtFirst();
        loudnessAndLengthAtTheirEdges();
        sixTakes();
        samplesOfATake();
        wholeTakesFollowTheScore();
        partsHaveToldBeats();
        againIsWorthMore();
        liveMarksCountTwice();
        roomIsSilent();
        framesBeginWithASample();
        levelOfThoseThereAre();
        beatsRise();
        handsAreKept();
        firstBeatHasNoGap();
        firstByFrames();
        barredIfThereIsNone();
        laidUntilChanged();
        laidWhateverElse();
        frameBehindTheLastBeat();
        startIsTenTimesTheFrame();
        marksOfABeat();
        due.end();
    }

    private static void silent(Desk x, int t, int kind, int samples) {
        x.take(t, kind, 0, 0, 0);
        x.play(t, samples, 0, 0);
    }

    private static Desk silentDesk(int samples) {
        Desk x = new Desk();
        silent(x, 0, TAKE, samples);
        return x;
    }

    /** Makes frame f's level the square of the sound. */
    private static void fill(Desk x, int t, int f, int sound) {
        for (int i = 10 * f; i < 10 * f + 10; i++) {
            x.put(t, i, sound);
        }
    }

    private static void place(Desk x, int t, int first, int... frames) {
        for (int i = 0; i < frames.length; i++) {
            x.hand(t, first + i, frames[i]);
        }
        x.lay(t);
    }

    private static void framesAre(String sentence, Desk x, int t, int first, int... frames) {
        for (int i = 0; i < frames.length; i++) {
            due.is(sentence + ", beat " + (first + i), x.frame(t, first + i), frames[i]);
        }
    }

    /** The sum of a silent part of one beat in one frame. */
    private static int loudnessOf(Desk x, int b) {
        x.take(5, PART, b, b, 0);
        x.play(5, 1, 0, 0);
        return x.lay(5);
    }

    /** The sum of a silent part of two beats in two frames, without their loudness: 20 (length - 1). */
    private static int lengthOf(Desk x, int b) {
        int loudness = loudnessOf(x, b) + loudnessOf(x, b + 1);
        x.take(5, PART, b, b + 1, 0);
        x.play(5, 11, 0, 0);
        return (x.lay(5) - loudness) / 20 + 1;
    }

    private static void callsOfOneObject() {
        String sentence = "used for at most 512 calls";
        Desk x = new Desk();
        for (int n = 0; n < 511; n++) {
            due.is(sentence, x.way(0), Due.NONE);
        }
        due.is(sentence + ": the 512th tells of 511", x.found(Due.NONE), 511);
        x = silentDesk(40);
        x.lay(0);
        while (x.left() > 1) {
            x.tell(0);
        }
        due.is(sentence + ": the 512th finds a way", x.best(0), 4000);
    }

    private static void quotientsAreCutTowardsZero() {
        String sentence = "Quotients are cut towards 0";
        Desk x = new Desk();
        silent(x, 0, TAKE, 40);
        silent(x, 1, TAKE, 40);
        x.put(0, 0, -33);
        x.put(0, 1, 33);
        x.put(0, 2, -1);
        x.copy(0, 0, 3, 1, 50);
        due.is(sentence + ": copy", x.sample(1, 40), -16);
        due.is(sentence + ": copy", x.sample(1, 41), 16);
        due.is(sentence + ": copy", x.sample(1, 42), 0);
        x.copy(0, 0, 3, 1, -50);
        due.is(sentence + ": copy, turned", x.sample(1, 43), 16);
        due.is(sentence + ": copy, turned", x.sample(1, 44), -16);
        due.is(sentence + ": level", x.level(1, 4), (256 + 256 + 256 + 256) / 6);
        x.set(0, 1);
        x.put(0, 20, 1);
        x.put(1, 20, -4);
        place(x, 0, 0, 0, 1, 2, 3);
        place(x, 1, 0, 0, 1, 2, 3);
        due.is(sentence + ": like, -8000 by 17", x.like(0, 1, 2, 0), -470);
        x.put(1, 20, 4);
        x.lay(1);
        due.is(sentence + ": like, 8000 by 17", x.like(0, 1, 2, 0), 470);
    }

    private static void beatsOfTheScore() {
        String sentence = "B BEATS (1 .. 24; 4 at first)";
        int[] beats = {4, 1, 24};
        Desk x = new Desk();
        x.take(0, TAKE, 0, 0, 0);
        for (int many : beats) {
            if (many != 4) {
                due.is(sentence, x.score(many), many);
            }
            due.is(sentence + ": all beats", x.as(0, TAKE), many);
            due.is(sentence + ": the first beat", x.beat(0, 1, 1), 1);
            due.is(sentence + ": the last beat", x.beat(many - 1, 1, 1), 1);
            due.is(sentence + ": none behind it", x.beat(many, 1, 1), Due.BEYOND);
            due.is(sentence + ": none ahead", x.beat(-1, 1, 1), Due.BEYOND);
        }
    }

    private static void loudnessAndLengthAtFirst() {
        Desk x = new Desk();
        for (int b = 0; b < 4; b++) {
            due.is("LOUDNESS (100 at first), beat " + b, loudnessOf(x, b), 100);
        }
        for (int b = 0; b < 3; b++) {
            due.is("LENGTH (3 at first), beat " + b, lengthOf(x, b), 3);
        }
        x.beat(0, 7, 7);
        x.score(24);
        for (int b = 0; b < 23; b++) {
            due.is("LENGTH (3 at first), of 24, beat " + b, lengthOf(x, b), 3);
        }
        due.is("LOUDNESS (100 at first), of 24, beat 0", loudnessOf(x, 0), 100);
        due.is("LOUDNESS (100 at first), of 24, beat 23", loudnessOf(x, 23), 100);
    }

    private static void loudnessAndLengthAtTheirEdges() {
        Desk x = new Desk();
        due.is("LOUDNESS 0, LENGTH 1", x.beat(0, 0, 1), 1);
        due.is("LOUDNESS 0", loudnessOf(x, 0), 0);
        due.is("LENGTH 1", lengthOf(x, 0), 1);
        due.is("LOUDNESS 10000, LENGTH 40", x.beat(0, 10000, 40), 1);
        due.is("LOUDNESS 10000", loudnessOf(x, 0), 10000);
        due.is("LENGTH 40", lengthOf(x, 0), 40);
        due.is("the beat behind stays", lengthOf(x, 1), 3);
        x.take(0, PART, 0, 0, 0);
        x.play(0, 10, 0, 0);
        fill(x, 0, 0, -100);
        due.is("LOUDNESS 10000 is the greatest LEVEL", x.lay(0), 0);
        x.take(0, PART, 0, 1, 0);
        x.play(0, 400, 0, 0);
        due.is("LENGTH 40 in 40 frames: one less", x.lay(0), 10000 + 100 + 20);
        framesAre("LENGTH 40 in 40 frames", x, 0, 0, 0, 39);
    }

    private static void sixTakes() {
        Desk x = new Desk();
        for (int t = 0; t < 6; t++) {
            due.is("A TAKE (0 .. 5; all are MISSING at first)", x.sample(t, -1), Due.MISSING);
        }
        for (int t = 0; t < 6; t++) {
            due.is("A TAKE (0 .. 5)", x.take(t, t % 5, 0, 3, 0), 1);
            due.is("A TAKE (0 .. 5)", x.play(t, 31 + t, 0, 0), 31 + t);
        }
        for (int t = 0; t < 6; t++) {
            due.is("each has its own samples", x.sample(t, -1), 31 + t);
            due.is("each is laid by itself", x.lay(t), 520);
        }
        for (int k = 0; k < 6; k++) {
            due.is("ways of all six", x.best(k), 4000);
            due.is("ways of all six", x.way(3), k);
        }
    }

    private static void samplesOfATake() {
        Desk x = new Desk();
        x.take(0, TAKE, 0, 0, 0);
        due.is("up to 400 SAMPLES: none", x.sample(0, -1), 0);
        due.is("up to 400 SAMPLES: 399", x.play(0, 399, 100, 1), 399);
        due.is("up to 400 SAMPLES: 400", x.play(0, 1, 100, 2), 400);
        due.is("up to 400 SAMPLES: 401", x.play(0, 1, 100, 3), Due.FULL);
        int least = 0;
        int most = 0;
        for (int i = 0; i < 400; i++) {
            int sound = x.sample(0, i);
            least = Math.min(least, sound);
            most = Math.max(most, sound);
        }
        due.is("SAMPLES, -100 .. 100: the least", least, -100);
        due.is("SAMPLES, -100 .. 100: the most", most, 100);
        due.is("SAMPLES, -100 .. 100: put", x.put(0, 399, -100), 1);
        due.is("SAMPLES, -100 .. 100: put", x.sample(0, 399), -100);
        due.is("SAMPLES, -100 .. 100: put", x.put(0, 0, 100), 1);
        due.is("SAMPLES, -100 .. 100: put", x.sample(0, 0), 100);
    }

    private static void wholeTakesFollowTheScore() {
        String sentence = "all beats (also when the score is another one)";
        for (int kind : new int[] {TAKE, LIVE, ROOM}) {
            Desk x = new Desk();
            silent(x, 0, kind, 240);
            due.is(sentence, x.as(0, kind), 4);
            for (int beats : new int[] {24, 1, 5}) {
                x.score(beats);
                due.is(sentence, x.as(0, kind), beats);
                due.is(sentence + ": worth of its last", x.worth(0, beats - 1), 1000);
                due.is(sentence + ": none behind it", x.worth(0, beats), Due.BEYOND);
                due.holds(sentence + ": it is laid", x.lay(0) >= 100 * beats);
                due.holds(sentence + ": the last has a frame", x.frame(0, beats - 1) >= beats - 1);
            }
        }
    }

    private static void partsHaveToldBeats() {
        String sentence = "A take HAS the beats from its first to its last one";
        for (int kind : new int[] {PART, AGAIN}) {
            int[][] told = {{0, 0}, {3, 3}, {0, 3}, {1, 2}};
            for (int[] one : told) {
                Desk x = new Desk();
                x.take(0, kind, one[0], one[1], 0);
                due.is(sentence, x.as(0, kind), one[1] - one[0] + 1);
                for (int b = -1; b < 5; b++) {
                    due.is(sentence, x.worth(0, b), b >= one[0] && b <= one[1] ? 1000 : Due.BEYOND);
                }
                x.score(24);
                due.is(sentence + ": beats told stay", x.as(0, kind), one[1] - one[0] + 1);
                due.is(sentence + ": beats told stay", x.worth(0, one[0]), 1000);
                due.is(sentence + ": beats told stay", x.worth(0, one[1] + 1), Due.BEYOND);
            }
        }
    }

    private static void againIsWorthMore() {
        for (int more : new int[] {0, 1, 999, 1000}) {
            Desk x = new Desk();
            x.take(0, AGAIN, 1, 2, more);
            due.is("AGAIN: its worth is told more, first", x.worth(0, 1), 1000 + more);
            due.is("AGAIN: its worth is told more, last", x.worth(0, 2), 1000 + more);
            x.score(3);
            due.is("AGAIN: also when the score is another one", x.worth(0, 2), 1000 + more);
            x.take(0, PART, 1, 2, more);
            due.is("more is of AGAIN alone", x.worth(0, 1), 1000);
        }
    }

    private static void liveMarksCountTwice() {
        int[] worth = {-300, -100, -50, 200};
        for (int what = 0; what < 4; what++) {
            Desk x = new Desk();
            x.take(0, LIVE, 0, 0, 0);
            x.take(1, TAKE, 0, 0, 0);
            for (int n = 1; n <= 9; n++) {
                x.mark(0, 3, what);
                x.mark(1, 3, what);
                int times = what < 3 ? 2 : 1;
                due.is("LIVE: each mark below 0 counts twice", x.worth(0, 3), 1000 + times * n * worth[what]);
                due.is("TAKE: each mark counts once", x.worth(1, 3), 1000 + n * worth[what]);
            }
            due.is("another beat has none", x.worth(0, 2), 1000);
        }
    }

    private static void roomIsSilent() {
        String sentence = "ROOM: samples are all 0 whatever is told of them, no marks";
        Desk x = new Desk();
        x.take(0, ROOM, 0, 0, 0);
        x.take(1, TAKE, 0, 0, 0);
        x.play(0, 20, 100, 3);
        x.play(1, 20, 100, 3);
        x.copy(1, 0, 20, 0, 400);
        x.copy(0, 0, 1, 0, -400);
        due.is(sentence, x.put(0, 0, 100), 1);
        due.is(sentence, x.put(0, 40, -100), 1);
        due.is(sentence + ": how many", x.sample(0, -1), 41);
        for (int i = 0; i < 41; i++) {
            due.is(sentence, x.sample(0, i), 0);
        }
        for (int f = 0; f < 5; f++) {
            due.is(sentence + ": level", x.level(0, f), 0);
        }
        for (int b = 0; b < 4; b++) {
            for (int what = 0; what < 4; what++) {
                due.is(sentence, x.mark(0, b, what), Due.KIND);
            }
            due.is(sentence + ": worth", x.worth(0, b), 1000);
        }
    }

    private static void framesBeginWithASample() {
        String sentence = "as many frames as begin with a sample";
        int[] samples = {0, 1, 9, 10, 11, 20, 21, 390, 391, 399, 400};
        int[] frames = {0, 1, 1, 1, 2, 2, 3, 39, 40, 40, 40};
        for (int n = 0; n < samples.length; n++) {
            Desk x = silentDesk(samples[n]);
            for (int f = 0; f < frames[n]; f++) {
                due.is(sentence + ", " + samples[n] + " samples, frame " + f, x.level(0, f), 0);
            }
            due.is(sentence + ", " + samples[n] + " samples", x.level(0, frames[n]), Due.BEYOND);
        }
    }

    private static void levelOfThoseThereAre() {
        String sentence = "the sum of their squares by how many they are";
        Desk x = new Desk();
        x.take(0, TAKE, 0, 0, 0);
        int squares = 0;
        for (int many = 1; many <= 10; many++) {
            x.play(0, 1, 0, 0);
            x.put(0, many - 1, many % 2 == 0 ? 10 * many : -9 * many);
            squares += x.sample(0, many - 1) * x.sample(0, many - 1);
            due.is(sentence + ": " + many, x.level(0, 0), squares / many);
        }
        x.play(0, 1, 0, 0);
        x.put(0, 10, -100);
        due.is(sentence + ": ten, another behind", x.level(0, 0), squares / 10);
        due.is(sentence + ": the greatest", x.level(0, 1), 10000);
        x.play(0, 1, 0, 0);
        due.is(sentence + ": of two", x.level(0, 1), 5000);
    }

    private static void beatsRise() {
        Desk x = new Desk();
        x.score(2);
        x.beat(0, 10000, 1);
        x.beat(1, 10000, 1);
        silent(x, 0, TAKE, 30);
        fill(x, 0, 1, 100);
        due.is("each beat behind the one ahead: not both at one frame", x.lay(0), 10000);
        framesAre("each beat behind the one ahead", x, 0, 0, 0, 1);
        x = new Desk();
        x.score(24);
        silent(x, 0, TAKE, 231);
        due.is("just as many frames as beats", x.lay(0), 24 * 100 + 23 * 40);
        for (int b = 0; b < 24; b++) {
            framesAre("just as many frames as beats", x, 0, b, b);
        }
        for (int b = 0; b < 24; b++) {
            x.beat(b, 10000, 40);
        }
        due.is("the greatest sum", x.lay(0), 24 * 10000 + 23 * 20 * 39);
    }

    private static void handsAreKept() {
        String sentence = "hands' frames are kept";
        Desk x = silentDesk(400);
        x.hand(0, 0, 36);
        due.is(sentence + ": as late as may be", x.lay(0), 400 + 3 * 40);
        framesAre(sentence, x, 0, 0, 36, 37, 38, 39);
        x.hand(0, 0, -1);
        x.hand(0, 3, 3);
        due.is(sentence + ": as soon as may be", x.lay(0), 400 + 3 * 40);
        framesAre(sentence, x, 0, 0, 0, 1, 2, 3);
        x.hand(0, 3, 39);
        x.hand(0, 0, 0);
        due.is(sentence + ": the first and the last frame", x.lay(0), 400 + 20 * (39 - 9));
        framesAre(sentence, x, 0, 0, 0, 3, 6, 39);
        x.hand(0, 1, 30);
        x.hand(0, 2, 31);
        due.is(sentence + ": all of them", x.lay(0), 400 + 20 * (27 + 2 + 5));
        framesAre(sentence, x, 0, 0, 0, 30, 31, 39);
    }

    private static void firstBeatHasNoGap() {
        String sentence = "for each beat but its first one 20 times the frames from the one ahead";
        Desk x = new Desk();
        x.beat(0, 100, 40);
        x.beat(1, 100, 2);
        x.take(0, PART, 1, 1, 0);
        x.play(0, 100, 0, 0);
        fill(x, 0, 9, 10);
        due.is(sentence + ": one beat has no gap", x.lay(0), 0);
        framesAre(sentence, x, 0, 1, 9);
        x.take(1, PART, 1, 2, 0);
        x.play(1, 100, 0, 0);
        fill(x, 1, 9, 10);
        due.is(sentence + ": less that one's LENGTH", x.lay(1), 100);
        framesAre(sentence, x, 1, 1, 7, 9);
    }

    private static void firstByFrames() {
        String sentence = "Of several the first by frames, the first beat's ahead";
        Desk x = silentDesk(400);
        due.is(sentence, x.lay(0), 400);
        framesAre(sentence, x, 0, 0, 0, 3, 6, 9);
        x.hand(0, 3, 8);
        due.is(sentence + ": one frame too few", x.lay(0), 420);
        framesAre(sentence, x, 0, 0, 0, 2, 5, 8);
        x.hand(0, 0, 0);
        x.hand(0, 3, 10);
        due.is(sentence + ": one frame too many", x.lay(0), 420);
        framesAre(sentence, x, 0, 0, 0, 3, 6, 10);
        x = new Desk();
        x.take(0, PART, 2, 2, 0);
        x.play(0, 400, 0, 0);
        fill(x, 0, 38, 10);
        fill(x, 0, 39, 10);
        due.is(sentence + ": of two frames alike", x.lay(0), 0);
        framesAre(sentence, x, 0, 2, 38);
    }

    private static void barredIfThereIsNone() {
        String sentence = "BARRED, if there is none";
        for (int beats = 1; beats <= 24; beats++) {
            Desk x = new Desk();
            x.score(beats);
            silent(x, 0, TAKE, 10 * beats - 10);
            due.is(sentence + ": a frame too few for " + beats, x.lay(0), Due.BARRED);
            due.is(sentence + ": not LAID", x.frame(0, 0), Due.NONE);
            x.play(0, 1, 0, 0);
            due.is(sentence + ": just enough for " + beats, x.lay(0), 100 * beats + 40 * (beats - 1));
            x.hand(0, beats - 1, beats - 1);
            due.is(sentence + ": a hand at the only frame", x.lay(0), 100 * beats + 40 * (beats - 1));
            if (beats > 1) {
                x.hand(0, beats - 1, beats - 2);
                due.is(sentence + ": a hand a frame too soon", x.lay(0), Due.BARRED);
                x.hand(0, beats - 1, -1);
                x.hand(0, 0, 1);
                due.is(sentence + ": a hand a frame too late", x.lay(0), Due.BARRED);
            }
        }
    }

    /** Takes 0 and 1 are laid, take 2 isn't. */
    private static Desk laidDesk() {
        Desk x = new Desk();
        for (int t = 0; t < 3; t++) {
            silent(x, t, TAKE, 40);
        }
        x.lay(0);
        x.lay(1);
        return x;
    }

    private static void laidUntilChanged() {
        Twin.Act[] changes = {
            x -> x.take(0, TAKE, 0, 0, 0), x -> x.play(0, 1, 0, 0), x -> x.copy(1, 0, 1, 0, 100),
            x -> x.copy(0, 0, 1, 0, 100), x -> x.put(0, 0, 9), x -> x.hand(0, 0, 0), x -> x.hand(0, 3, 3),
        };
        for (int n = 0; n < changes.length; n++) {
            Desk x = laidDesk();
            due.holds("a change is done", changes[n].on(x) > 0);
            due.is("LAID until it, its samples or hands' frames are changed: " + n, x.frame(0, 0), Due.NONE);
            due.is("another take stays LAID: " + n, x.frame(1, 3), 3);
            due.is("another one isn't LAID by that: " + n, x.frame(2, 0), Due.NONE);
        }
        Desk torn = laidDesk();
        torn.tear(0);
        due.is("LAID until it is changed: torn", torn.frame(0, 0), Due.MISSING);
        due.is("another take stays LAID: torn", torn.frame(1, 3), 3);
        torn.take(0, TAKE, 0, 0, 0);
        due.is("LAID until it is changed: torn, anew", torn.frame(0, 0), Due.NONE);
        Twin.Act[] scores = {x -> x.score(4), x -> x.score(3), x -> x.beat(0, 100, 4), x -> x.beat(3, 7, 3)};
        for (int n = 0; n < scores.length; n++) {
            Desk x = laidDesk();
            due.holds("a change is done", scores[n].on(x) > 0);
            due.is("LAID until the score is changed: " + n, x.frame(0, 0), Due.NONE);
            due.is("LAID until the score is changed, all: " + n, x.frame(1, 0), Due.NONE);
        }
    }

    private static void laidWhateverElse() {
        Desk x = laidDesk();
        x.mark(0, 0, 0);
        x.copy(0, 0, 1, 2, 100);
        x.set(0, 1);
        x.set(1, 1);
        x.bar(1, true);
        x.keep(0, 1);
        x.take(2, ROOM, 0, 0, 0);
        x.tear(2);
        x.best(0);
        x.few(0);
        x.tell(1);
        x.check();
        framesAre("LAID whatever else is done", x, 0, 0, 0, 1, 2, 3);
        framesAre("LAID whatever else is done", x, 1, 0, 0, 1, 2, 3);
        due.is("lay once more", x.lay(0), 520);
        framesAre("LAID once more", x, 0, 0, 0, 1, 2, 3);
    }

    /** Part 0 ends with beat 1 at frame 3, of the length; part 1 begins with beat 2 and is silent. */
    private static Desk partsDesk(int length, int samples, int lastSound) {
        Desk x = new Desk();
        x.set(0, 1);
        x.set(1, 0);
        x.beat(1, 100, length);
        x.take(0, PART, 0, 1, 0);
        x.play(0, samples, 0, 0);
        x.put(0, samples - 1, lastSound);
        place(x, 0, 0, 0, 3);
        x.take(1, PART, 2, 3, 0);
        x.play(1, 20, 0, 0);
        x.lay(1);
        return x;
    }

    private static void frameBehindTheLastBeat() {
        String sentence = "The frame of the beat behind its last one";
        due.is(sentence + ": LENGTH 1, the next frame", partsDesk(1, 45, 100).cost(0, 1, 2), 1200 + 2000);
        due.is(sentence + ": LENGTH 2, the last frame", partsDesk(2, 60, 100).cost(0, 1, 2), 1200 + 1000);
        due.is(sentence + ": LENGTH 2, of one sample", partsDesk(2, 51, 100).cost(0, 1, 2), 1200 + 10000);
        due.is(sentence + ": no such frame, LEVEL 0", partsDesk(2, 50, 100).cost(0, 1, 2), 1200);
        due.is(sentence + ": no such frame, LEVEL 0", partsDesk(3, 60, 100).cost(0, 1, 2), 1200);
        due.is(sentence + ": LENGTH 36 is frame 39", partsDesk(36, 391, 50).cost(0, 1, 2), 1200 + 2500);
        due.is(sentence + ": LENGTH 36 is frame 39, not there", partsDesk(36, 390, 50).cost(0, 1, 2), 1200);
        due.is(sentence + ": LENGTH 37 is frame 40", partsDesk(37, 400, 50).cost(0, 1, 2), 1200);
        due.is(sentence + ": LENGTH 40, far behind", partsDesk(40, 400, 50).cost(0, 1, 2), 1200);
        due.is(sentence + ": frame() doesn't tell it", partsDesk(1, 45, 100).frame(0, 2), Due.BEYOND);
        Desk x = partsDesk(2, 52, 100);
        x.put(0, 50, 30);
        x.put(1, 0, 30);
        x.lay(0);
        x.lay(1);
        due.is(sentence + ": its START", x.like(0, 1, 2, 0), 1000);
    }

    private static void startIsTenTimesTheFrame() {
        for (int f : new int[] {0, 1, 36}) {
            Desk x = silentDesk(400);
            x.hand(0, 0, f);
            x.lay(0);
            x.best(0);
            due.is("START: 10 times its frame", x.from(0, 1), 10 * f);
            due.is("START: 10 times its frame, to the end", x.made(), 400 - 10 * f);
        }
    }

    private static void marksOfABeat() {
        Desk x = new Desk();
        x.take(0, TAKE, 0, 0, 0);
        x.take(1, LIVE, 0, 0, 0);
        x.take(2, AGAIN, 0, 3, 1000);
        for (int t = 0; t < 3; t++) {
            for (int n = 0; n < 36; n++) {
                x.mark(t, 0, n % 4);
                if (n % 4 == 3) {
                    x.mark(t, 1, 3);
                } else {
                    x.mark(t, 2, n % 4);
                }
            }
        }
        int[][] worths = {{-1250, 2800, -3050}, {-5300, 2800, -7100}, {-250, 3800, -2050}};
        for (int t = 0; t < 3; t++) {
            due.is("WORTH: nine of all marks", x.worth(t, 0), worths[t][0]);
            due.is("WORTH: the greatest", x.worth(t, 1), worths[t][1]);
            due.is("WORTH: the least", x.worth(t, 2), worths[t][2]);
            due.is("WORTH: no marks", x.worth(t, 3), t == 2 ? 2000 : 1000);
        }
    }
}
