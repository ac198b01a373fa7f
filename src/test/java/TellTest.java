/** Promises 30 to 32: tell, check, found. */
final class TellTest {
    private static final Due due = new Due();

    public static void main(String[] args) {
        tellItself();
        checkBeats();
        checkValues();
        checkLongScore();
        foundItself();
        due.end();
    }

    private static void tellAll(Desk x, int... numbers) {
        for (int v : numbers) {
            x.tell(v);
        }
    }

    private static void tellItself() {
        Desk x = new Desk();
        for (int n = 1; n <= 30; n++) {
            due.is("30: tell", x.tell(n % 2 == 0 ? Integer.MIN_VALUE : Integer.MAX_VALUE), n);
        }
        due.is("30: full", x.tell(0), Due.FULL);
        due.is("31: check", x.check(), 1);
        due.is("31: none wait then", x.tell(0), 1);
    }

    private static Desk twoTakes() {
        Desk x = new Desk();
        for (int t = 0; t < 2; t++) {
            x.take(t, 0, 0, 0, 0);
            x.play(t, 40, 0, 0);
            x.lay(t);
        }
        x.take(2, 0, 0, 0, 0);
        x.take(3, 1, 0, 1, 0);
        x.play(3, 40, 0, 0);
        x.lay(3);
        return x;
    }

    private static void checkIs(String what, Desk x, int want, int... numbers) {
        tellAll(x, numbers);
        due.is("31: " + what, x.check(), want);
    }

    private static void checkBeats() {
        Desk x = twoTakes();
        checkIs("nothing told", x, 1);
        checkIs("one beat told", x, 2, 0);
        checkIs("three beats told", x, 4, 0, 0, 0);
        checkIs("no such take", x, 2, 0, 6, 0, 0, 4000);
        checkIs("no such take", x, 1, -1, 0, 0, 0, 4000);
        checkIs("far from a take", x, 3, 0, 0, Integer.MIN_VALUE, 0, 4000);
        checkIs("a missing take", x, 3, 0, 0, 5, 0, 4000);
        checkIs("a take that isn't laid", x, 4, 0, 0, 0, 2, 4000);
        checkIs("a take that hasn't it", x, 3, 3, 3, 3, 3, 4000);
        x.keep(2, 1);
        checkIs("not the kept one", x, 3, 0, 0, 0, 0, 4000);
        checkIs("the kept one", x, 0, 1, 1, 1, 1, 4000);
        x.bar(2, true);
        checkIs("a join at a bar", x, 3, 0, 0, 1, 1, 2800);
        checkIs("a join ahead of the bar", x, 0, 0, 1, 1, 1, 2800);
        checkIs("the first of two", x, 2, 0, 9, 0, 0);
    }

    private static void checkValues() {
        Desk x = twoTakes();
        x.mark(1, 2, 3);
        checkIs("no value", x, 100, 0, 0, 0, 0);
        checkIs("another value", x, 100, 0, 0, 0, 0, 3999);
        checkIs("its value", x, 0, 0, 0, 0, 0, 4000);
        checkIs("its value with joins", x, 0, 0, 1, 1, 0, 4200 - 2400);
        checkIs("its value with a part", x, 0, 3, 3, 1, 1, 4200 - 1200);
        checkIs("more told", x, 101, 0, 0, 0, 0, 4000, 0);
        checkIs("another value, more told", x, 100, 0, 0, 0, 0, 4001, 4000);
        checkIs("a wrong beat, more told", x, 1, 7, 0, 0, 0, 4001, 4000);
        due.is("31: it finds no way", x.way(0), Due.NONE);
        x.best(0);
        checkIs("another way", x, 0, 0, 0, 0, 0, 4000);
        due.is("31: the way stays", x.way(0), 1);
    }

    private static void checkLongScore() {
        Desk x = new Desk();
        x.score(24);
        x.take(0, 4, 0, 0, 0);
        x.play(0, 240, 0, 0);
        x.lay(0);
        for (int b = 0; b < 24; b++) {
            x.tell(0);
        }
        x.tell(24000);
        due.is("31: 24 beats", x.check(), 0);
        for (int n = 0; n < 24; n++) {
            x.tell(0);
        }
        x.tell(24000);
        for (int n = 0; n < 5; n++) {
            x.tell(0);
        }
        due.is("30: full", x.tell(0), Due.FULL);
        due.is("31: 24 beats, more told", x.check(), 101);
        for (int n = 0; n < 23; n++) {
            x.tell(0);
        }
        due.is("31: the last beat is missing", x.check(), 24);
    }

    private static void foundItself() {
        Desk x = new Desk();
        for (int finding = Due.BARRED; finding <= Due.BEYOND; finding++) {
            due.is("32: nothing found", x.found(finding), 0);
        }
        due.is("32: another number", x.found(0), Due.BEYOND);
        due.is("32: another number", x.found(-1000000), Due.BEYOND);
        due.is("32: another number", x.found(-1000008), Due.BEYOND);
        due.is("32: another number", x.found(Integer.MAX_VALUE), Due.BEYOND);
        due.is("32: another number", x.found(Integer.MIN_VALUE), Due.BEYOND);
        due.is("32: counted, too", x.found(Due.BEYOND), 5);
        x.tear(0);
        x.tear(1);
        due.is("32: missing", x.found(Due.MISSING), 2);
        x.take(0, 0, 0, 0, 0);
        x.as(0, 1);
        due.is("32: kind", x.found(Due.KIND), 1);
        x.play(0, -1, 0, 0);
        x.copy(0, 0, -1, 0, 0);
        due.is("32: size", x.found(Due.SIZE), 2);
        x.play(0, 401, 0, 0);
        due.is("32: full", x.found(Due.FULL), 1);
        x.way(0);
        x.best(0);
        x.few(0);
        x.frame(0, 0);
        due.is("32: none", x.found(Due.NONE), 4);
        x.lay(0);
        due.is("32: barred", x.found(Due.BARRED), 1);
        due.is("32: beyond as before", x.found(Due.BEYOND), 5);
        x.check();
        due.is("32: check finds nothing", x.found(Due.MISSING), 2);
        x.score(3);
        due.is("32: a new score leaves it", x.found(Due.SIZE), 2);
    }
}
