/** Promises 1 to 6: a new object, line, height, halt, set, person. */
public final class LineTest {
    private static final int[] FIRST = {1, 4, 100, 8, 2000, 500, 3, 6};
    private static final int[] LEAST = {1, 1, 0, 0, 0, 1, 1, 1};
    private static final int[] MOST = {9, 20, 500, 500, 1000000, 10000, 16, 100};
    private static final int NONE = TwoCars.NONE;
    private static final Check c = new Check();

    public static void main(String[] args) {
        newObject();
        lineSizes();
        lineMakesAllNew();
        lineKeepsNumbersAndList();
        heights();
        halts();
        numbers();
        people();
        c.end();
    }

    private static void newObject() {
        c.part("promise 1");
        TwoCars x = new TwoCars();
        c.due("NONE", TwoCars.NONE, -1);
        c.counts(x, 4, 0, 0, 0, 0, 0, 0, 0, 0, 0);
        c.rode(x, NONE, NONE, NONE, NONE, NONE, NONE, NONE);
        c.noSuch(x, 0, 0);
        for (int what = 0; what < FIRST.length; what++) {
            c.due("set(" + what + ")", x.set(what, FIRST[what]), FIRST[what]);
        }
        checkFirstHeights(x, 4);
        checkOnlyEndsAreHalts(new TwoCars(), 4);
        c.due("clear()", x.clear(), 0);
        c.due("off()", x.off(), 0);
        for (int piece = 0; piece < 4; piece++) {
            c.due("bent", x.bent(piece), 0);
            c.due("broken", x.broken(piece, 1), 1);
        }
    }

    /** A height shows by what its neighbours may become. */
    private static void checkFirstHeights(TwoCars x, int n) {
        for (int place = 0; place <= n; place++) {
            if (place < n) {
                c.no("height too much at " + place, x.height(place, 10 * place + 11));
                c.yes("height at most at " + place, x.height(place, 10 * place + 10));
            }
            if (place > 0) {
                c.no("height too little at " + place, x.height(place, 10 * place - 11));
                c.yes("height at least at " + place, x.height(place, 10 * place - 10));
            }
            c.yes("height at first at " + place, x.height(place, 10 * place));
        }
    }

    private static void checkOnlyEndsAreHalts(TwoCars x, int n) {
        for (int place = 1; place < n; place++) {
            c.due("person to " + place, x.person(0, place, 0), NONE);
            c.due("person from " + place, x.person(place, n, 0), NONE);
        }
        c.due("person up", x.person(0, n, 0), 0);
        c.due("person down", x.person(n, 0, 0), 1);
    }

    private static void lineSizes() {
        c.part("promise 2, sizes");
        TwoCars x = new TwoCars();
        int[] wrong = {0, 1, 3, 5, 15, 17, 18, -2, -4, Integer.MAX_VALUE, Integer.MIN_VALUE, Integer.MIN_VALUE + 2};
        for (int n : wrong) {
            c.no("line(" + n + ")", x.line(n));
            c.due("count(0)", x.count(0), 4);
        }
        for (int n = 2; n <= 16; n += 2) {
            x = new TwoCars();
            c.yes("line(" + n + ")", x.line(n));
            c.due("count(0)", x.count(0), n);
            c.no("height over the top", x.height(n + 1, 999));
            c.due("bent of the last", x.bent(n - 1), 0);
            c.due("bent above", x.bent(n), NONE);
            checkFirstHeights(x, n);
            checkOnlyEndsAreHalts(x, n);
        }
    }

    private static TwoCars used() {
        TwoCars x = new TwoCars();
        x.height(4, 500);
        x.height(3, 400);
        x.halt(2, true);
        x.person(0, 2, 0);
        x.person(2, 4, 0);
        x.person(4, 0, 900);
        x.broken(1, 50);
        x.ride(7);
        return x;
    }

    private static void lineMakesAllNew() {
        c.part("promise 2, all new");
        TwoCars x = used();
        c.counts(x, 4, 3, 4, 12, 1, 0, 0, 2, 1, 16);
        c.no("line(7)", x.line(7));
        c.counts(x, 4, 3, 4, 12, 1, 0, 0, 2, 1, 16);
        c.due("rode(6)", x.rode(6), 5);
        c.due("off()", x.off(), 100);
        c.yes("line(4)", x.line(4));
        c.counts(x, 4, 0, 0, 0, 0, 0, 0, 0, 0, 0);
        c.rode(x, NONE, NONE, NONE, NONE, NONE, NONE, NONE);
        c.noSuch(x, 0, 0);
        c.due("off()", x.off(), 0);
        c.due("bent(1)", x.bent(1), 0);
        c.due("broken(1, 1)", x.broken(1, 1), 1);
        checkFirstHeights(x, 4);
        checkOnlyEndsAreHalts(x, 4);
        c.person(x, 0, 0, 0, 4, 0, NONE, NONE);
        c.due("ride(0)", x.ride(0), 4);
        c.person(x, 0, 3, 0, 4, 0, 0, 4);
    }

    private static void lineKeepsNumbersAndList() {
        c.part("promise 2, what stays");
        TwoCars x = new TwoCars();
        for (int what = 0; what < FIRST.length; what++) {
            x.set(what, LEAST[what]);
        }
        x.at(5);
        x.line(6);
        for (int what = 0; what < FIRST.length; what++) {
            c.due("set(" + what + ")", x.set(what, MOST[what]), LEAST[what]);
        }
        c.due("clear()", x.clear(), 1);
    }

    private static void heights() {
        c.part("promise 3");
        TwoCars x = new TwoCars();
        c.no("below place 0", x.height(-1, 0));
        c.no("above place n", x.height(5, 50));
        c.no("far below", x.height(Integer.MIN_VALUE, 0));
        c.no("far above", x.height(Integer.MAX_VALUE, 999));
        c.no("below 0", x.height(0, -1));
        c.yes("0", x.height(0, 0));
        c.no("above 999", x.height(4, 1000));
        c.yes("999", x.height(4, 999));
        c.yes("as under it", x.height(2, 10));
        c.no("less than under it", x.height(2, 9));
        c.yes("as over it", x.height(2, 30));
        c.no("more than over it", x.height(2, 31));
        c.yes("what was refused did not change it", x.height(3, 30));
        c.no("nor this", x.height(3, 29));
        c.due("ride(0)", x.ride(0), 4);
        c.due("greatest pull by heights 0 10 30 30 999", x.rode(3), 100 * 969 - 100 * 10);
    }

    private static void halts() {
        c.part("promise 4");
        TwoCars x = new TwoCars();
        int[] wrong = {0, 4, -1, 5, Integer.MAX_VALUE, Integer.MIN_VALUE};
        for (int place : wrong) {
            c.no("halt(" + place + ", true)", x.halt(place, true));
            c.no("halt(" + place + ", false)", x.halt(place, false));
        }
        for (int place = 1; place < 4; place++) {
            c.yes("halt", x.halt(place, true));
            c.yes("halt again", x.halt(place, true));
        }
        c.due("person(1, 2, 0)", x.person(1, 2, 0), 0);
        c.no("somebody is from it", x.halt(1, false));
        c.no("somebody is to it", x.halt(2, false));
        c.no("somebody is from it, so it is refused either way", x.halt(1, true));
        c.no("somebody is to it, so it is refused either way", x.halt(2, true));
        c.due("person(2, 1, 0)", x.person(2, 1, 0), 1);
        c.yes("nobody wants it", x.halt(3, false));
        c.due("person(0, 3, 0)", x.person(0, 3, 0), NONE);
        x.ride(0);
        x.ride(10);
        c.due("both have come", x.count(7), 2);
        c.no("they are still people from it", x.halt(1, false));
        c.yes("line(4)", x.line(4));
        c.yes("nobody is from it now", x.halt(1, true));
        c.yes("off again", x.halt(1, false));
        c.due("person(0, 1, 0)", x.person(0, 1, 0), NONE);
    }

    private static void numbers() {
        c.part("promise 5");
        TwoCars x = new TwoCars();
        for (int what = 0; what < FIRST.length; what++) {
            c.due("too little of " + what, x.set(what, LEAST[what] - 1), NONE);
            c.due("too much of " + what, x.set(what, MOST[what] + 1), NONE);
            c.due("least int of " + what, x.set(what, Integer.MIN_VALUE), NONE);
            c.due("most int of " + what, x.set(what, Integer.MAX_VALUE), NONE);
            c.due("least of " + what, x.set(what, LEAST[what]), FIRST[what]);
            c.due("most of " + what, x.set(what, MOST[what]), LEAST[what]);
            c.due("first of " + what, x.set(what, FIRST[what]), MOST[what]);
        }
        int[] wrong = {-1, 8, Integer.MIN_VALUE, Integer.MAX_VALUE};
        for (int what : wrong) {
            c.due("set(" + what + ", 1)", x.set(what, 1), NONE);
        }
        for (int i = 0; i < 4; i++) {
            x.person(0, 4, 0);
        }
        x.ride(0);
        c.due("nobody is left in a car", x.set(1, 1), 4);
    }

    private static void people() {
        c.part("promise 6");
        TwoCars x = new TwoCars();
        x.halt(3, true);
        c.due("alike", x.person(3, 3, 0), NONE);
        c.due("from no halt", x.person(2, 3, 0), NONE);
        c.due("to no halt", x.person(3, 2, 0), NONE);
        c.due("from below", x.person(-1, 3, 0), NONE);
        c.due("to above", x.person(3, 5, 0), NONE);
        c.due("from far", x.person(Integer.MAX_VALUE, 3, 0), NONE);
        c.due("to far", x.person(3, Integer.MIN_VALUE, 0), NONE);
        c.due("minute -1", x.person(0, 3, -1), NONE);
        c.due("minute 1000", x.person(0, 3, 1000), NONE);
        c.due("nobody yet", x.count(1), 0);
        c.due("minute 0", x.person(0, 3, 0), 0);
        c.due("minute 999", x.person(3, 0, 999), 1);
        c.person(x, 0, 0, 0, 3, 0, NONE, NONE);
        c.person(x, 1, 0, 3, 0, 999, NONE, NONE);
        for (int who = 2; who < 60; who++) {
            c.due("person", x.person(0, 4, who), who);
        }
        c.due("person 60", x.person(0, 4, 0), NONE);
        c.due("count(1)", x.count(1), 60);
        c.person(x, 59, 0, 0, 4, 59, NONE, NONE);
        c.noSuch(x, 60, 0);
        x.line(2);
        c.due("a new line has room", x.person(0, 2, 0), 0);
        c.due("a place that was above", x.person(0, 4, 0), NONE);
        c.due("a halt that was", x.person(0, 3, 0), NONE);
    }
}
