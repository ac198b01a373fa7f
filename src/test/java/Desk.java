/** A TakeDesk that counts its calls: the document promises 512 of them, so no test may ask for more. */
final class Desk {
    private static final int MOST_CALLS = 512;

    private final TakeDesk desk = new TakeDesk();
    private int calls;

    int left() {
        return MOST_CALLS - calls;
    }

    private TakeDesk next() {
        if (calls == MOST_CALLS) {
            throw new IllegalStateException("this test asks one desk more than " + MOST_CALLS + " times");
        }
        calls++;
        return desk;
    }

    int score(int beats) {
        return next().score(beats);
    }

    int beat(int b, int loud, int length) {
        return next().beat(b, loud, length);
    }

    int take(int t, int kind, int from, int to, int more) {
        return next().take(t, kind, from, to, more);
    }

    int tear(int t) {
        return next().tear(t);
    }

    int play(int t, int n, int g, int seed) {
        return next().play(t, n, g, seed);
    }

    int copy(int s, int from, int n, int t, int num) {
        return next().copy(s, from, n, t, num);
    }

    int put(int t, int i, int v) {
        return next().put(t, i, v);
    }

    int sample(int t, int i) {
        return next().sample(t, i);
    }

    int as(int t, int kind) {
        return next().as(t, kind);
    }

    int level(int t, int f) {
        return next().level(t, f);
    }

    int hand(int t, int b, int f) {
        return next().hand(t, b, f);
    }

    int lay(int t) {
        return next().lay(t);
    }

    int frame(int t, int b) {
        return next().frame(t, b);
    }

    int mark(int t, int b, int what) {
        return next().mark(t, b, what);
    }

    int worth(int t, int b) {
        return next().worth(t, b);
    }

    int set(int what, int v) {
        return next().set(what, v);
    }

    int like(int s, int t, int b, int d) {
        return next().like(s, t, b, d);
    }

    int shift(int s, int t, int b) {
        return next().shift(s, t, b);
    }

    int cost(int s, int t, int b) {
        return next().cost(s, t, b);
    }

    int bar(int b, boolean on) {
        return next().bar(b, on);
    }

    int keep(int b, int t) {
        return next().keep(b, t);
    }

    int best(int k) {
        return next().best(k);
    }

    int few(int j) {
        return next().few(j);
    }

    int way(int b) {
        return next().way(b);
    }

    int joins() {
        return next().joins();
    }

    int made() {
        return next().made();
    }

    int heard(int i) {
        return next().heard(i);
    }

    int from(int i, int what) {
        return next().from(i, what);
    }

    int tell(int v) {
        return next().tell(v);
    }

    int check() {
        return next().check();
    }

    int found(int finding) {
        return next().found(finding);
    }
}
