import java.util.NoSuchElementException;

/** Compares answers with those that are due, and tells the difference at the end of a test. */
final class Check {
    private String part = "";
    private int asked = 0;
    private int wrong = 0;

    void part(String name) {
        part = name;
    }

    void due(String call, long got, long want) {
        asked++;
        if (got != want) {
            wrong++;
            System.out.println(part + ": " + call + " answered " + got + ", due is " + want);
        }
    }

    void yes(String call, boolean got) {
        due(call, got ? 1 : 0, 1);
    }

    void no(String call, boolean got) {
        due(call, got ? 1 : 0, 0);
    }

    void noSuch(TwoCars x, int person, int what) {
        boolean thrown = false;
        try {
            x.of(person, what);
        } catch (NoSuchElementException e) {
            thrown = true;
        }
        yes("of(" + person + ", " + what + ") throws", thrown);
    }

    /** The answers of count, rode or of to 0, 1, 2 .. in one row. */
    void counts(TwoCars x, int... want) {
        for (int what = 0; what < want.length; what++) {
            due("count(" + what + ")", x.count(what), want[what]);
        }
    }

    void rode(TwoCars x, int... want) {
        for (int what = 0; what < want.length; what++) {
            due("rode(" + what + ")", x.rode(what), want[what]);
        }
    }

    void person(TwoCars x, int person, int... want) {
        for (int what = 0; what < want.length; what++) {
            due("of(" + person + ", " + what + ")", x.of(person, what), want[what]);
        }
    }

    void end() {
        System.out.println(asked + " answers, " + wrong + " not as due");
        if (wrong != 0 || asked == 0) {
            System.exit(1);
        }
    }
}
