/** The block between paragraphs 3 and 4 of the Terms, and paragraph 4: likeness, shift, cost, ways, what is made. */
final class JoinEdgesTest {
    private static final int TAKE = 0;
    private static final int PART = 1;
    private static final int ROOM = 4;
    /** Beat 2 of the takes of pair() starts here. */
    private static final int START = 40;
    private static final Due due = new Due();

    public static void main(String[] args) {
        windowToBothSides();
        windowByShift();
        samplesThatAreNotThere();
        samplesOfATakeAnew();
        likenessOfSilence();
        shiftReaches();
        shiftOfSeveral();
        shiftIsByTheCutLikeness();
        widestWindowAndReach();
        joinsAtBeatZero();
        settingsCountAtOnce();
        costAtItsEdges();
        levelsDiffer();
        takesOfAWay();
        joinsOfAWay();
        barsAndKeptBeats();
        orderOfAllAlike();
        orderByValue();
        valueIsWorthsLessCosts();
        madeToTheEnd();
        madeOfRows();
        rampOfNone();
        rampOfNine();
        rampLongerThanTheRow();
        leftOutAhead();
        nothingIfNotFurther();
        aheadIsNotThere();
        rampIsCutDown();
        due.end();
    }

    /** Two silent takes of 80 samples with beats at frames 0, 1, 4 and 7, to be laid behind what is put. */
    private static Desk pair() {
        Desk x = new Desk();
        for (int t = 0; t < 2; t++) {
            x.take(t, TAKE, 0, 0, 0);
            x.play(t, 80, 0, 0);
            int[] frames = {0, 1, 4, 7};
            for (int b = 0; b < 4; b++) {
                x.hand(t, b, frames[b]);
            }
        }
        return x;
    }

    private static void layBoth(Desk x) {
        x.lay(0);
        x.lay(1);
    }

    private static void windowToBothSides() {
        for (int w : new int[] {1, 8, 20}) {
            int[] places = {START - w - 1, START - w, START - 1, START, START + w - 1, START + w};
            for (int place : places) {
                Desk x = pair();
                x.set(0, w);
                x.put(0, place, 50);
                x.put(1, place, 50);
                layBoth(x);
                boolean within = place >= START - w && place < START + w;
                due.is("with W " + w + " samples to both sides: " + place, x.like(0, 1, 2, 0), within ? 1000 : 0);
            }
        }
    }

    private static void windowByShift() {
        for (int d : new int[] {-20, -9, -1, 1, 9, 20}) {
            for (int place : new int[] {START - 9, START - 8, START + 7, START + 8}) {
                Desk x = pair();
                x.put(0, place, 50);
                x.put(1, place + d, 50);
                layBoth(x);
                boolean within = place >= START - 8 && place < START + 8;
                due.is("y those of t likewise and d more: " + d, x.like(0, 1, 2, d), within ? 1000 : 0);
            }
        }
    }

    private static void samplesThatAreNotThere() {
        String sentence = "samples that aren't there are 0";
        Desk x = new Desk();
        x.score(2);
        x.take(0, TAKE, 0, 0, 0);
        x.play(0, 31, 0, 0);
        x.hand(0, 0, 1);
        x.hand(0, 1, 3);
        x.take(1, PART, 1, 1, 0);
        x.play(1, 10, 0, 0);
        x.put(0, 29, 50);
        x.put(0, 30, 50);
        x.put(1, 0, 50);
        layBoth(x);
        due.is(sentence + ": ahead of t's first, behind s's last", x.like(0, 1, 1, 0), 2000 * 2500 / 7500);
        due.is(sentence + ": 8 ahead alone", x.like(0, 1, 1, -8), 0);
        due.is(sentence + ": 20 ahead", x.like(0, 1, 1, -20), 0);
        due.is(sentence + ": 20 behind", x.like(0, 1, 1, 20), 0);
        due.is(sentence + ": t and s the other way round", x.like(1, 0, 1, 0), 2000 * 2500 / 7500);
        x.set(0, 20);
        due.is(sentence + ": W 20", x.like(0, 1, 1, 0), 2000 * 2500 / 7500);
        due.is(sentence + ": W 20, 20 ahead", x.like(0, 1, 1, -20), 0);
    }

    /** A take's place is used again: what the old one had there isn't there now. */
    private static void samplesOfATakeAnew() {
        String sentence = "samples that aren't there are 0, of a take anew";
        Desk x = new Desk();
        x.set(1, 0);
        x.set(3, 9);
        x.beat(1, 100, 2);
        x.take(0, TAKE, 0, 0, 0);
        x.play(0, 400, 0, 0);
        for (int i = 30; i < 50; i++) {
            x.put(0, i, 100);
        }
        x.take(0, PART, 0, 1, 0);
        x.play(0, 31, 0, 0);
        x.hand(0, 0, 0);
        x.hand(0, 1, 1);
        x.take(1, PART, 2, 3, 0);
        x.play(1, 20, 0, 0);
        x.put(1, 1, 100);
        layBoth(x);
        due.is(sentence + ": like", x.like(0, 1, 2, 0), 0);
        due.is(sentence + ": like, one silent sample", x.like(1, 1, 2, 0), 1000);
        due.is(sentence + ": level", x.level(0, 3), 0);
        due.is(sentence + ": cost", x.cost(0, 1, 2), 200 + 1000 + 1000);
        x.best(0);
        due.is(sentence + ": made", x.made(), 30 + 20);
        due.is(sentence + ": the ramp", x.heard(31), 2 * 100 / 10);
        due.is(sentence + ": the ramp", x.heard(32), 0);
        x.take(0, PART, 0, 1, 0);
        x.play(0, 30, 0, 0);
        x.lay(0);
        x.best(0);
        due.is(sentence + ": one less", x.heard(30), 0);
    }

    private static void likenessOfSilence() {
        Desk x = pair();
        x.put(1, START, 100);
        layBoth(x);
        due.is("0 if that is 0", x.like(0, 1, 0, 0), 0);
        due.is("0 if that is 0, of itself", x.like(0, 0, 2, 0), 0);
        due.is("0 of one silent one", x.like(0, 1, 2, 0), 0);
        x.take(2, ROOM, 0, 0, 0);
        x.play(2, 80, 100, 1);
        x.lay(2);
        due.is("0 if that is 0, of a ROOM", x.like(2, 2, 1, 0), 0);
        x.put(0, START, 100);
        x.lay(0);
        due.is("the greatest LIKENESS", x.like(0, 1, 2, 0), 1000);
        x.put(0, START, -100);
        x.lay(0);
        due.is("the least LIKENESS", x.like(0, 1, 2, 0), -1000);
    }

    private static void shiftReaches() {
        for (int reach : new int[] {0, 1, 3, 9}) {
            for (int far : new int[] {-reach - 1, -reach, reach, reach + 1}) {
                Desk x = pair();
                x.set(0, 1);
                x.set(1, reach);
                x.put(0, START, 50);
                x.put(1, START + far, 50);
                layBoth(x);
                int shift = Math.abs(far) <= reach ? far : 0;
                due.is("d from -D to D, D " + reach + ": " + far, x.shift(0, 1, 2), shift);
            }
        }
    }

    private static int shiftOf(int... places) {
        Desk x = pair();
        x.set(0, 1);
        x.set(1, 9);
        x.put(0, START, 50);
        for (int place : places) {
            x.put(1, START + place, 50);
        }
        layBoth(x);
        return x.shift(0, 1, 2);
    }

    private static void shiftOfSeveral() {
        due.is("of several the nearest to 0: all alike", shiftOf(), 0);
        due.is("of several the nearest to 0: below", shiftOf(-2, 5), -2);
        due.is("of several the nearest to 0: above", shiftOf(-5, 2), 2);
        due.is("of several the nearest to 0: 0 itself", shiftOf(-4, 0, 4), 0);
        due.is("of two the one below 0", shiftOf(-4, 4), -4);
        due.is("of two the one below 0, the furthest", shiftOf(-9, 9), -9);
        due.is("of two the one below 0, the nearest", shiftOf(-2, 2, 6, -6), -2);
        Desk x = pair();
        x.set(0, 1);
        x.put(0, START, 50);
        x.put(1, START, -50);
        layBoth(x);
        due.is("none is above 0: the nearest of those", x.shift(0, 1, 2), -1);
    }

    private static void shiftIsByTheCutLikeness() {
        Desk x = pair();
        x.set(0, 1);
        x.put(0, START, 100);
        x.put(1, START, 98);
        x.put(1, START + 2, 99);
        layBoth(x);
        due.is("LIKENESS, cut", x.like(0, 1, 2, 0), 999);
        due.is("LIKENESS, cut", x.like(0, 1, 2, 2), 999);
        due.is("alike when cut: the nearest to 0", x.shift(0, 1, 2), 0);
    }

    private static void widestWindowAndReach() {
        String sentence = "W 20 and D 9";
        for (int side : new int[] {-1, 1}) {
            Desk x = pair();
            x.set(0, 20);
            x.set(1, 9);
            int place = side < 0 ? START - 20 : START + 19;
            x.put(0, place, 50);
            x.put(1, place + 9 * side, 50);
            layBoth(x);
            due.is(sentence + ": shift", x.shift(0, 1, 2), 9 * side);
            due.is(sentence + ": cost", x.cost(0, 1, 2), 200);
            due.is(sentence + ": like", x.like(0, 1, 2, 9 * side), 1000);
            due.is(sentence + ": like, no shift", x.like(0, 1, 2, 0), 0);
        }
        Desk x = new Desk();
        x.set(0, 20);
        x.set(1, 9);
        for (int t = 0; t < 2; t++) {
            x.take(t, TAKE, 0, 0, 0);
            x.play(t, 80, 100, 4 + t);
            x.lay(t);
        }
        for (int b = 0; b < 4; b++) {
            int best = 0;
            int greatest = x.like(0, 1, b, 0);
            for (int far = 1; far <= 9; far++) {
                for (int d : new int[] {-far, far}) {
                    int likeness = x.like(0, 1, b, d);
                    best = likeness > greatest ? d : best;
                    greatest = Math.max(greatest, likeness);
                }
            }
            due.is(sentence + ": the greatest of all", x.shift(0, 1, b), best);
        }
    }

    private static void joinsAtBeatZero() {
        Desk x = pair();
        x.set(0, 1);
        x.set(1, 2);
        x.hand(0, 0, 1);
        x.hand(0, 1, 2);
        x.hand(1, 0, 2);
        x.hand(1, 1, 3);
        x.put(0, 10, 50);
        x.put(1, 22, 50);
        layBoth(x);
        due.is("beat 0: like", x.like(0, 1, 0, 2), 1000);
        due.is("beat 0: shift", x.shift(0, 1, 0), 2);
        due.is("beat 0: cost", x.cost(0, 1, 0), 200);
        x.put(1, 22, 0);
        x.put(1, 19, 40);
        x.lay(1);
        due.is("beat 0, laid anew: shift", x.shift(0, 1, 0), -1);
        due.is("beat 0, laid anew: cost", x.cost(0, 1, 0), 200 + 1000 - 2000 * 2000 / 4100 + 250);
        x.put(0, 10, 40);
        x.lay(0);
        due.is("beat 0, the other laid anew: cost", x.cost(0, 1, 0), 200 + 160);
    }

    private static void settingsCountAtOnce() {
        Desk x = pair();
        x.put(0, START, 50);
        x.put(1, START + 2, 50);
        x.put(1, START - 4, 100);
        layBoth(x);
        x.set(0, 1);
        due.is("17, W becomes 1: shift", x.shift(0, 1, 2), 2);
        due.is("17, W becomes 1: cost", x.cost(0, 1, 2), 200);
        x.set(0, 20);
        due.is("17, W becomes 20: shift", x.shift(0, 1, 2), 2);
        due.is("17, W becomes 20: cost", x.cost(0, 1, 2), 200 + 1000 - 2000 * 2500 / 15000);
        x.set(1, 1);
        due.is("17, D becomes 1: shift", x.shift(0, 1, 2), 0);
        due.is("17, D becomes 1: cost", x.cost(0, 1, 2), 200 + 1000);
        x.set(1, 9);
        x.set(2, 0);
        due.is("17, D becomes 9: shift", x.shift(0, 1, 2), -4);
        due.is("17, the constant becomes 0: cost", x.cost(0, 1, 2), 1000 - 2000 * 5000 / 15000);
    }

    private static void costAtItsEdges() {
        Desk x = pair();
        x.set(0, 1);
        x.set(1, 0);
        x.put(0, START, 100);
        x.put(1, START, 100);
        layBoth(x);
        due.is("COST: 200 at first", x.cost(0, 1, 2), 200);
        due.is("COST: the constant was 200", x.set(2, 0), 200);
        due.is("COST: the least", x.cost(0, 1, 2), 0);
        x.set(2, 1000);
        due.is("COST: the constant 1000", x.cost(0, 1, 2), 1000);
        x.put(1, START, -100);
        x.lay(1);
        due.is("COST: the least LIKENESS", x.cost(0, 1, 2), 1000 + 2000);
        due.is("COST: silence", x.cost(0, 1, 0), 1000 + 1000);
        for (int i = 0; i < 9; i++) {
            x.put(1, START + 1 + i, 100);
        }
        x.put(0, START, 0);
        layBoth(x);
        due.is("COST: the greatest difference", x.cost(0, 1, 2), 1000 + 1000 + 10000);
    }

    private static void levelsDiffer() {
        Desk x = pair();
        x.set(2, 0);
        x.put(0, START + 9, 30);
        x.put(1, START + 9, 10);
        x.set(0, 1);
        layBoth(x);
        due.is("what LEVELS differ by, s above", x.cost(0, 1, 2), 1000 + 90 - 10);
        due.is("what LEVELS differ by, t above", x.cost(1, 0, 2), 1000 + 90 - 10);
        due.is("what LEVELS differ by, nothing", x.cost(0, 0, 2), 1000);
    }

    /** Silent takes of four frames; a join of two of them costs 1200. */
    private static Desk silentTakes(int takes) {
        Desk x = new Desk();
        for (int t = 0; t < takes; t++) {
            x.take(t, TAKE, 0, 0, 0);
            x.play(t, 40, 0, 0);
            x.lay(t);
        }
        return x;
    }

    private static void takesOfAWay() {
        String sentence = "A WAY gives each beat a take that is LAID and HAS it";
        Desk x = silentTakes(0);
        due.is(sentence + ": no takes", x.best(0), Due.NONE);
        x.take(0, TAKE, 0, 0, 0);
        x.play(0, 40, 0, 0);
        due.is(sentence + ": not LAID", x.best(0), Due.NONE);
        x.lay(0);
        due.is(sentence + ": LAID", x.best(0), 4000);
        due.is(sentence + ": one way alone", x.best(1), Due.NONE);
        x.put(0, 0, 1);
        due.is(sentence + ": not LAID any more", x.best(0), Due.NONE);
        x = new Desk();
        x.take(0, PART, 0, 2, 0);
        x.take(1, PART, 3, 3, 0);
        x.play(0, 30, 0, 0);
        x.play(1, 1, 0, 0);
        layBoth(x);
        due.is(sentence + ": parts side by side", x.best(0), 4000 - 1200);
        due.is(sentence + ": one way alone", x.best(1), Due.NONE);
        x.take(1, PART, 2, 2, 0);
        x.play(1, 1, 0, 0);
        x.lay(1);
        due.is(sentence + ": the last beat has none", x.best(0), Due.NONE);
        x.take(0, PART, 1, 3, 0);
        x.play(0, 30, 0, 0);
        x.lay(0);
        due.is(sentence + ": the first beat has none", x.best(0), Due.NONE);
    }

    private static void joinsOfAWay() {
        String sentence = "a JOIN is at each beat but 0 whose take isn't that of the beat ahead";
        for (int beats : new int[] {1, 2, 24}) {
            Desk x = new Desk();
            x.score(beats);
            for (int t = 0; t < 2; t++) {
                x.take(t, TAKE, 0, 0, 0);
                x.play(t, 240, 0, 0);
                x.lay(t);
            }
            x.best(0);
            due.is(sentence + ": none of " + beats, x.joins(), 0);
            for (int b = 0; b < beats; b++) {
                x.keep(b, (b + 1) % 2);
            }
            due.is(sentence + ": all of " + beats, x.best(0), 1000 * beats - 1200 * (beats - 1));
            due.is(sentence + ": all of " + beats, x.joins(), beats - 1);
            due.is(sentence + ": beat 0 has none", x.way(0), 1);
        }
    }

    private static void barsAndKeptBeats() {
        for (int b = 1; b < 4; b++) {
            Desk x = silentTakes(2);
            x.keep(b - 1, 0);
            x.keep(b, 1);
            due.is("KEPT beats have told takes", x.best(0), 4000 - 1200);
            due.is("KEPT beats have told takes", x.way(b - 1), 0);
            due.is("KEPT beats have told takes", x.way(b), 1);
            x.bar(b, true);
            due.is("BARS: beats at which no join may be", x.best(0), Due.NONE);
            due.is("BARS: not with many joins either", x.few(23), Due.NONE);
            x.bar(b, false);
            x.bar(b == 1 ? 2 : 1, true);
            due.is("BARS: at another beat", x.best(0), 4000 - 1200);
        }
        Desk x = silentTakes(2);
        for (int b = 1; b < 4; b++) {
            x.bar(b, true);
        }
        due.is("BARS: at all beats, no join", x.best(1), 4000);
        due.is("BARS: at all beats, two ways alone", x.best(2), Due.NONE);
    }

    /** Joins of two takes that are alike cost nothing without the constant: all 16 ways have one value. */
    private static void orderOfAllAlike() {
        Desk x = new Desk();
        x.set(2, 0);
        for (int t = 0; t < 2; t++) {
            x.take(t, TAKE, 0, 0, 0);
            x.play(t, 40, 50, 3);
            x.lay(t);
        }
        int[] ways = {0, 1111, 1, 11, 111, 1000, 1100, 1110, 10, 100, 110, 1001, 1011, 1101, 101, 1010};
        for (int k = 0; k < ways.length; k++) {
            String sentence = "of alike ones fewer JOINS; of these the first by takes: " + k;
            due.is(sentence, x.best(k), 4000);
            int way = 1000 * x.way(0) + 100 * x.way(1) + 10 * x.way(2) + x.way(3);
            due.is(sentence, way, ways[k]);
        }
        due.is("sixteen ways", x.best(16), Due.NONE);
        for (int j = 0; j < 4; j++) {
            due.is("few of alike ones", x.few(j), 4000);
            due.is("few of alike ones: fewer JOINS", x.joins(), 0);
            due.is("few of alike ones: the first by takes", x.way(0), 0);
        }
        x.keep(0, 1);
        x.keep(2, 0);
        due.is("few: of alike ones the first by takes", x.few(1), 4000);
        due.is("few: of alike ones the first by takes", x.way(1), 0);
        due.is("few: of alike ones fewer JOINS", x.few(3), 4000);
        due.is("few: of alike ones fewer JOINS", x.way(3), 0);
    }

    private static void orderByValue() {
        Desk x = silentTakes(3);
        x.mark(2, 0, 3);
        x.mark(1, 3, 2);
        due.is("greater VALUE ahead", x.best(0), 4200);
        due.is("greater VALUE ahead", x.way(3), 2);
        due.is("greater VALUE ahead, the next", x.best(1), 4000);
        due.is("greater VALUE ahead, the next", x.way(3), 0);
        due.is("greater VALUE ahead, the third", x.best(2), 3950);
        due.is("greater VALUE ahead, the third", x.way(3), 1);
        for (int t = 0; t < 3; t++) {
            for (int n = 0; n < 36; n++) {
                x.mark(t, n % 4, 0);
            }
        }
        due.is("VALUES below 0", x.best(0), 4000 - 4 * 2700 + 200);
        due.is("VALUES below 0", x.best(1), 4000 - 4 * 2700);
        due.is("VALUES below 0", x.way(0), 0);
        due.is("VALUES below 0, with a join", x.best(3), 4000 - 4 * 2700 + 200 - 1200);
        due.is("VALUES below 0, with a join: few", x.few(0), 4000 - 4 * 2700 + 200);
    }

    /** Takes that sound, so that no two joins cost the same. */
    private static void valueIsWorthsLessCosts() {
        Desk x = new Desk();
        for (int t = 0; t < 3; t++) {
            x.take(t, TAKE, 0, 0, 0);
            x.play(t, 70 + t, 80, 31 + t);
            x.mark(t, t, 3);
            x.lay(t);
        }
        int[] way = {0, 1, 2, 0};
        int value = 0;
        for (int b = 0; b < 4; b++) {
            x.keep(b, way[b]);
            value += x.worth(way[b], b);
            if (b > 0) {
                int cost = x.cost(way[b - 1], way[b], b);
                due.holds("another cost the other way", cost != x.cost(way[b], way[b - 1], b));
                due.holds("another cost at the beat ahead", cost != x.cost(way[b - 1], way[b], b - 1));
                value -= cost;
            }
        }
        due.is("VALUE: the sum of WORTHS less that of COSTS", x.best(0), value);
        due.is("VALUE: the same of few", x.few(3), value);
        for (int t : way) {
            x.tell(t);
        }
        x.tell(value);
        due.is("VALUE: the same of check", x.check(), 0);
    }

    private static void madeToTheEnd() {
        String sentence = "behind beat B - 1: to its end";
        for (int samples : new int[] {31, 40, 399, 400}) {
            Desk x = new Desk();
            x.take(0, TAKE, 0, 0, 0);
            x.play(0, samples, 0, 0);
            x.lay(0);
            x.best(0);
            due.is(sentence, x.made(), samples);
            due.is(sentence + ": the first one", x.from(0, 1), 0);
            due.is(sentence + ": the last one", x.from(samples - 1, 1), samples - 1);
            due.is(sentence + ": none behind it", x.from(samples, 1), Due.BEYOND);
        }
        Desk x = new Desk();
        x.score(1);
        x.take(0, TAKE, 0, 0, 0);
        x.play(0, 1, 0, 0);
        x.put(0, 0, -100);
        x.lay(0);
        x.best(0);
        due.is(sentence + ": one sample", x.made(), 1);
        due.is(sentence + ": one sample", x.heard(0), -100);
    }

    /** Take 0 has beats 0 and 1 of the way, take 1 the others; no shifts. */
    private static Desk joined(int ramp) {
        Desk x = pair();
        x.set(1, 0);
        x.set(3, ramp);
        for (int b = 0; b < 4; b++) {
            x.keep(b, b / 2);
        }
        return x;
    }

    private static void fromIs(String sentence, Desk x, int i, int... wanted) {
        for (int what = 0; what < wanted.length; what++) {
            due.is(sentence + ", from(" + i + ", " + what + ")", x.from(i, what), wanted[what]);
        }
    }

    private static void madeOfRows() {
        String sentence = "up to ahead of its START of the beat behind the row";
        Desk x = joined(4);
        layBoth(x);
        x.best(0);
        due.is(sentence, x.made(), 40 + 40);
        fromIs(sentence, x, 0, 0, 0, 0, 0);
        fromIs(sentence, x, 39, 0, 39, 0, 0);
        fromIs(sentence, x, 40, 1, 40, 2, 1);
        fromIs(sentence, x, 43, 1, 43, 2, 1);
        fromIs(sentence, x, 44, 1, 44, 2, 0);
        fromIs(sentence, x, 79, 1, 79, 2, 0);
    }

    private static void rampOfNone() {
        Desk x = joined(0);
        x.put(0, START, 100);
        x.put(1, START, 7);
        layBoth(x);
        x.best(0);
        due.is("ramps of R, 0", x.heard(40), 7);
        fromIs("ramps of R, 0", x, 40, 1, 40, 2, 0);
    }

    private static void rampOfNine() {
        Desk x = joined(9);
        for (int i = 0; i < 10; i++) {
            x.put(0, START + i, 100);
            x.put(1, START + i, -100);
        }
        layBoth(x);
        x.best(0);
        for (int k = 0; k < 9; k++) {
            due.is("ramps of R, 9: " + k, x.heard(40 + k), -10 * (k + 1) + 10 * (9 - k));
            fromIs("ramps of R, 9", x, 40 + k, 1, 40 + k, 2, 1);
        }
        due.is("ramps of R, 9: behind it", x.heard(49), -100);
        fromIs("ramps of R, 9: behind it", x, 49, 1, 49, 2, 0);
        due.is("ramps of R, 9: ahead of it", x.heard(39), 0);
        fromIs("ramps of R, 9: ahead of it", x, 39, 0, 39, 0, 0);
    }

    /** Take 1 has beat 1 alone, ten samples less a shift of nine; the ramp is nine samples long. */
    private static void rampLongerThanTheRow() {
        Desk x = new Desk();
        x.score(3);
        for (int t = 0; t < 2; t++) {
            x.take(t, TAKE, 0, 0, 0);
            x.play(t, 30, 0, 0);
        }
        x.put(0, 10, 70);
        x.put(1, 19, 70);
        layBoth(x);
        x.set(0, 1);
        x.set(1, 9);
        x.set(3, 9);
        x.keep(0, 0);
        x.keep(1, 1);
        x.keep(2, 0);
        due.is("a shift of nine", x.shift(0, 1, 1), 9);
        int back = x.shift(1, 0, 2);
        x.best(0);
        due.is("a ramp that is longer than its row", x.made(), 10 + 1 + 10 - back);
        fromIs("a ramp that is longer than its row", x, 10, 1, 19, 1, 1);
        due.is("a ramp that is longer than its row", x.heard(10), (70 + 9 * 70) / 10);
        fromIs("the ramp of the next row begins anew", x, 11, 0, 20 + back, 2, 1);
    }

    private static void leftOutAhead() {
        String sentence = "what isn't there of that is left out (those left out counted)";
        for (int left : new int[] {1, 3, 9}) {
            Desk x = new Desk();
            x.score(2);
            x.set(0, 10);
            x.set(1, 9);
            x.set(3, 4);
            x.take(0, TAKE, 0, 0, 0);
            x.play(0, 40, 0, 0);
            x.hand(0, 0, 0);
            x.hand(0, 1, 2);
            x.take(1, PART, 1, 1, 0);
            x.play(1, 5, 0, 0);
            x.put(0, 20 + left, 100);
            x.put(1, 0, 100);
            layBoth(x);
            x.keep(0, 0);
            x.keep(1, 1);
            due.is(sentence + ": ahead of its first sample", x.shift(0, 1, 1), -left);
            x.best(0);
            due.is(sentence, x.made(), 20 + 5);
            for (int i = 0; i < 5; i++) {
                fromIs(sentence, x, 20 + i, 1, i, 1, left + i < 4 ? 1 : 0);
            }
            due.is(sentence + ": like ones", x.heard(20), 100);
            due.is(sentence + ": silence", x.heard(24), 0);
        }
    }

    private static void nothingIfNotFurther() {
        String sentence = "nothing if that is not further";
        for (int samples = 31; samples <= 35; samples++) {
            Desk x = new Desk();
            x.set(0, 5);
            for (int t = 0; t < 2; t++) {
                x.take(t, TAKE, 0, 0, 0);
                x.play(t, t == 0 ? 40 : samples, 0, 0);
            }
            x.put(0, 27, 90);
            x.put(1, 30, 90);
            layBoth(x);
            for (int b = 0; b < 4; b++) {
                x.keep(b, b / 3);
            }
            due.is(sentence + ": the shift", x.shift(0, 1, 3), 3);
            x.best(0);
            int last = Math.max(0, samples - 33);
            due.is(sentence + ": " + samples, x.made(), 30 + last);
            due.is(sentence + ": the join is there", x.joins(), 1);
            due.is(sentence + ": behind it", x.heard(30 + last), Due.BEYOND);
            due.is(sentence + ": the last one", x.from(29 + last, 2), last > 0 ? 3 : 0);
        }
    }

    /** Part 0 ends behind beat 1; the ramp asks for samples behind its end. */
    private static void aheadIsNotThere() {
        String sentence = "0 if it isn't there";
        for (int samples : new int[] {41, 42, 43, 44, 45}) {
            Desk x = new Desk();
            x.set(1, 0);
            x.beat(1, 100, 3);
            x.take(0, PART, 0, 1, 0);
            x.play(0, samples, 0, 0);
            for (int i = 40; i < samples; i++) {
                x.put(0, i, 100);
            }
            x.hand(0, 0, 0);
            x.hand(0, 1, 1);
            x.take(1, PART, 2, 3, 0);
            x.play(1, 20, 0, 0);
            layBoth(x);
            x.best(0);
            due.is(sentence + ": made", x.made(), 40 + 20);
            for (int k = 0; k < 4; k++) {
                due.is(sentence + ": " + k, x.heard(40 + k), 40 + k < samples ? 100 * (4 - k) / 5 : 0);
            }
        }
        Desk x = new Desk();
        x.set(1, 0);
        x.beat(1, 100, 40);
        x.take(0, PART, 0, 1, 0);
        x.play(0, 25, 100, 1);
        x.take(1, PART, 2, 3, 0);
        x.play(1, 20, 0, 0);
        x.put(1, 0, 100);
        x.hand(1, 2, 0);
        layBoth(x);
        x.best(0);
        due.is("what isn't there of that is left out: behind its end", x.made(), 25 + 20);
        due.is(sentence + ": far behind its end", x.heard(25), 100 / 5);
        x.put(1, 0, 1);
        x.lay(1);
        x.set(3, 9);
        x.best(0);
        due.is(sentence + ": nothing at all of it", x.heard(25), 1 / 10);
    }

    private static void rampIsCutDown() {
        String sentence = "cut down: the greatest whole number not above";
        int[] sounds = {-1, 1, -9, 9, -100};
        int[] ahead = {0, -1, 4, -5, 99};
        for (int n = 0; n < sounds.length; n++) {
            Desk x = joined(1);
            x.put(0, START, ahead[n]);
            x.put(1, START, sounds[n]);
            layBoth(x);
            x.best(0);
            int[] wanted = {-1, 0, -3, 2, -1};
            due.is(sentence + ": " + sounds[n] + " and " + ahead[n] + " by 2", x.heard(40), wanted[n]);
        }
        Desk x = joined(2);
        x.put(0, START, -1);
        x.put(0, START + 1, 1);
        x.put(1, START + 1, -1);
        layBoth(x);
        x.best(0);
        due.is(sentence + ": -2 by 3", x.heard(40), -1);
        due.is(sentence + ": -2 and 1 by 3", x.heard(41), -1);
    }
}
