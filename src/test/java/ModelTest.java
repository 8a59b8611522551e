import java.util.NoSuchElementException;

/** Long mixed runs of calls: the program answers as the slow model of the document does. */
public final class ModelTest {
    private static final int RUNS = 1500;
    private static final int CALLS = 512;
    private static final int THROWN = Integer.MIN_VALUE;
    private static final int[] ODD = {-1, Integer.MIN_VALUE, Integer.MAX_VALUE, 1000, 2001, 61, 256};
    private static final Check c = new Check();
    private static long seed = 20261116;

    public static void main(String[] args) {
        for (int run = 0; run < RUNS; run++) {
            c.part("run " + run);
            oneRun(new TwoCars(), new Model());
        }
        c.end();
    }

    private static void oneRun(TwoCars x, Model m) {
        int laid = below(3);
        for (int call = 0; call < CALLS; call++) {
            if (call < 40 && laid > 0) {
                build(x, m, call);
            } else {
                mixed(x, m);
            }
        }
    }

    /** Next of a fixed row of numbers, so that every run of the test is the same. */
    private static int below(int bound) {
        seed = seed * 6364136223846793005L + 1442695040888963407L;
        return (int) ((seed >>> 33) % bound);
    }

    private static int near(int bound) {
        return below(40) == 0 ? ODD[below(ODD.length)] : below(bound);
    }

    private static void build(TwoCars x, Model m, int call) {
        if (call == 0) {
            line(x, m, 2 + 2 * below(8));
        } else if (call < 12) {
            halt(x, m, 1 + below(m.count(0)), true);
        } else {
            person(x, m, m.count(0), 60);
        }
    }

    private static void line(TwoCars x, Model m, int n) {
        c.due("line(" + n + ")", x.line(n) ? 1 : 0, m.line(n) ? 1 : 0);
    }

    private static void halt(TwoCars x, Model m, int place, boolean is) {
        c.due("halt(" + place + ", " + is + ")", x.halt(place, is) ? 1 : 0, m.halt(place, is) ? 1 : 0);
    }

    private static void person(TwoCars x, Model m, int n, int latest) {
        int from = near(n + 1);
        int to = near(n + 1);
        int minute = near(latest);
        c.due("person(" + from + ", " + to + ", " + minute + ")", x.person(from, to, minute), m.person(from, to, minute));
    }

    private static void mixed(TwoCars x, Model m) {
        int n = m.count(0);
        int kind = below(100);
        if (kind < 1) {
            line(x, m, near(19));
        } else if (kind < 7) {
            int place = near(n + 2);
            int h = near(below(2) == 0 ? 1000 : 12 * n);
            c.due("height(" + place + ", " + h + ")", x.height(place, h) ? 1 : 0, m.height(place, h) ? 1 : 0);
        } else if (kind < 11) {
            halt(x, m, near(n + 2), below(3) > 0);
        } else if (kind < 17) {
            set(x, m, near(9));
        } else if (kind < 32) {
            person(x, m, n, below(2) == 0 ? 1000 : m.count(3) + 30);
        } else if (kind < 52) {
            int t = below(10) == 0 ? near(2100) : m.count(3) + below(12) - 1;
            c.due("ride(" + t + ")", x.ride(t), m.ride(t));
        } else if (kind < 85) {
            ask(x, m, n);
        } else if (kind < 86) {
            c.due("again()", x.again(), m.again());
        } else {
            days(x, m, n);
        }
    }

    private static void set(TwoCars x, Model m, int what) {
        int room = below(2) == 0 ? 6 : 22;
        int motor = below(2) == 0 ? 3000 : 1000002;
        int[] bounds = {11, room, 502, 502, motor, 20, 18, 102};
        int v = near(what >= 0 && what < 8 ? bounds[what] : 10);
        c.due("set(" + what + ", " + v + ")", x.set(what, v), m.set(what, v));
    }

    private static void ask(TwoCars x, Model m, int n) {
        switch (below(5)) {
            case 0 -> {
                int what = near(11);
                c.due("count(" + what + ")", x.count(what), m.count(what));
            }
            case 1 -> {
                int what = near(8);
                c.due("rode(" + what + ")", x.rode(what), m.rode(what));
            }
            case 2 -> {
                int piece = near(n + 1);
                c.due("bent(" + piece + ")", x.bent(piece), m.bent(piece));
            }
            default -> {
                int person = near(m.count(1) + 1);
                int what = near(7);
                c.due("of(" + person + ", " + what + ")", of(x, person, what), of(m, person, what));
            }
        }
    }

    private static int of(TwoCars x, int person, int what) {
        try {
            return x.of(person, what);
        } catch (NoSuchElementException e) {
            return THROWN;
        }
    }

    private static int of(Model m, int person, int what) {
        try {
            return m.of(person, what);
        } catch (NoSuchElementException e) {
            return THROWN;
        }
    }

    private static void days(TwoCars x, Model m, int n) {
        int kind = below(20);
        if (kind < 5) {
            int minute = near(below(2) == 0 ? 2001 : 100);
            c.due("at(" + minute + ")", x.at(minute), m.at(minute));
        } else if (kind < 6) {
            c.due("clear()", x.clear(), m.clear());
        } else if (kind < 11) {
            int bits = near(1 << below(9));
            c.due("day(" + bits + ")", x.day(bits), m.day(bits));
        } else if (kind == 11 && below(8) == 0) {
            int k = near(10);
            c.due("best(" + k + ")", x.best(k), m.best(k));
        } else if (kind < 16) {
            int piece = near(n + 1);
            int v = near(below(2) == 0 ? 102 : 5);
            c.due("broken(" + piece + ", " + v + ")", x.broken(piece, v), m.broken(piece, v));
        } else {
            c.due("off()", x.off(), m.off());
        }
    }
}
