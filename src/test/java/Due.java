/** Counts the answers that aren't as due, and ends a test with exit code 1 if there are some. */
final class Due {
    static final int BEYOND = -1000001;
    static final int MISSING = -1000002;
    static final int KIND = -1000003;
    static final int SIZE = -1000004;
    static final int FULL = -1000005;
    static final int NONE = -1000006;
    static final int BARRED = -1000007;

    private int asked;
    private int wrong;

    void is(String call, int got, int want) {
        asked++;
        if (got != want) {
            wrong++;
            System.out.println(call + " answered " + got + ", due is " + want);
        }
    }

    void holds(String claim, boolean held) {
        asked++;
        if (!held) {
            wrong++;
            System.out.println("not so: " + claim);
        }
    }

    int wrong() {
        return wrong;
    }

    void end() {
        System.out.println(asked + " answers asked, " + wrong + " not as due");
        if (wrong != 0) {
            System.exit(1);
        }
    }
}
