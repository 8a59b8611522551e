/** Promises 12 to 15: at, clear, day, best. */
public final class DayTest {
    private static final int NONE = TwoCars.NONE;
    private static final Check c = new Check();

    public static void main(String[] args) {
        list();
        waits();
        order();
        ridesThatWouldOverlap();
        ridesPastTheLastStart();
        nothingChanges();
        best();
        bestOfEqualOnes();
        bestOfEight();
        c.end();
    }

    private static void list() {
        c.part("promises 12 and 13");
        TwoCars x = new TwoCars();
        c.due("clear()", x.clear(), 0);
        int[] wrong = {-1, 2001, Integer.MIN_VALUE, Integer.MAX_VALUE};
        for (int minute : wrong) {
            c.due("at(" + minute + ")", x.at(minute), NONE);
        }
        int[] minutes = {2000, 0, 7, 7, 3, 1999, 1, 0};
        for (int i = 0; i < minutes.length; i++) {
            c.due("at(" + minutes[i] + ")", x.at(minutes[i]), i + 1);
        }
        c.due("at(5), the ninth", x.at(5), NONE);
        c.due("clear()", x.clear(), 8);
        c.due("clear() once more", x.clear(), 0);
        c.due("at(5)", x.at(5), 1);
        c.due("day(1)", x.day(1), 0);
        c.due("day(2)", x.day(2), NONE);
    }

    private static TwoCars withPeople() {
        TwoCars x = new TwoCars();
        x.person(0, 4, 3);
        x.person(0, 4, 10);
        x.person(4, 0, 6);
        x.person(0, 4, 500);
        return x;
    }

    private static void waits() {
        c.part("promise 14, waits");
        TwoCars x = withPeople();
        c.due("day(0) without a list", x.day(0), 0);
        c.due("day(1) without a list", x.day(1), NONE);
        x.at(5);
        x.at(20);
        x.at(30);
        c.due("day(0): nobody waits until 0", x.day(0), 0);
        // A from 0 at 5 takes person 0 (2); the end is 9: person 2 waits 3
        c.due("day(1)", x.day(1), 2 + 3);
        // one ride at 20: 17, 10, 14
        c.due("day(2)", x.day(2), 17 + 10 + 14);
        // the second ride, A from 4 at 20, takes person 2 (14), and B from 0 person 1 (10)
        c.due("day(3)", x.day(3), 2 + 14 + 10);
        c.due("day(5)", x.day(5), 2 + 24 + 20);
        c.due("day(7)", x.day(7), 2 + 14 + 10);
        c.due("day(8)", x.day(8), NONE);
        c.due("day(-1)", x.day(-1), NONE);
        c.due("day(least)", x.day(Integer.MIN_VALUE), NONE);
        c.due("day(most)", x.day(Integer.MAX_VALUE), NONE);
        x.set(1, 1);
        // with one seat person 1 stays at 0 until B leaves it
        c.due("day(2) with one seat", x.day(2), 17 + 14 + (24 - 10));
        c.due("day(6) with one seat", x.day(6), 17 + 14 + 20);
    }

    private static void order() {
        c.part("promise 14, ascending");
        TwoCars x = withPeople();
        x.at(30);
        x.at(5);
        x.at(20);
        c.due("bits go by the list", x.day(1), 27 + 20 + 24);
        c.due("day(2)", x.day(2), 2 + 3);
        c.due("the rides go by minutes", x.day(7), 2 + 14 + 10);
        c.due("day(3)", x.day(3), 2 + 24 + 20);
    }

    private static void ridesThatWouldOverlap() {
        c.part("promise 14, a ride that must wait for the one ahead");
        TwoCars x = new TwoCars();
        x.person(0, 4, 9);
        x.at(6);
        x.at(6);
        x.at(7);
        // rides at 6, 10 and 14
        c.due("day(3)", x.day(3), 1);
        c.due("day(5)", x.day(5), 1);
        c.due("day(7)", x.day(7), 1);
        x.line(4);
        x.person(4, 0, 11);
        c.due("two: it waits until 14", x.day(3), 3);
        c.due("three: it boards at 14", x.day(7), 3);
        x.line(4);
        x.person(0, 4, 13);
        c.due("three: the last begins at 14", x.day(7), 1);
    }

    private static void ridesPastTheLastStart() {
        c.part("promise 14, past 2000");
        TwoCars x = new TwoCars();
        x.set(0, 9);
        x.set(1, 1);
        x.person(0, 4, 999);
        x.person(0, 4, 999);
        x.at(2000);
        x.at(2000);
        c.due("day(3): rides at 2000 and 2036", x.day(3), 1001 + 1037);
        c.due("day(1)", x.day(1), 1001 + 1037);
    }

    private static void nothingChanges() {
        c.part("promise 14, nothing changes");
        TwoCars x = withPeople();
        x.at(5);
        x.at(20);
        x.ride(12);
        int before = x.day(3);
        c.due("day(3) begins as behind again()", before, 2 + 14 + 10);
        c.due("best(1)", x.best(1), 1);
        c.counts(x, 4, 4, 4, 16, 1, 0, 0, 3, 1, 9 + 2 + 6);
        c.rode(x, 0, 0, 0, 80, 0, 3, 4);
        c.person(x, 0, 3, 0, 4, 3, 12, 16);
        c.person(x, 3, 0, 0, 4, 500, NONE, NONE);
        c.due("bent(0)", x.bent(0), 1);
        c.due("ride(16)", x.ride(16), 20);
        c.due("the same day", x.day(3), before);
        c.due("clear()", x.clear(), 2);
    }

    private static void best() {
        c.part("promise 15");
        TwoCars x = withPeople();
        c.due("best(0) without a list", x.best(0), 0);
        c.due("best(1) without a list", x.best(1), NONE);
        x.at(20);
        x.at(12);
        x.at(10);
        // one ride: 17+10+14, 9+2+6, 7+0+4
        c.due("best(1)", x.best(1), 4);
        // two rides: all have gone with the first
        c.due("best(2)", x.best(2), 5);
        c.due("best(3)", x.best(3), 7);
        c.due("best(0)", x.best(0), 0);
        c.due("best(4)", x.best(4), NONE);
        c.due("best(-1)", x.best(-1), NONE);
        c.due("best(least)", x.best(Integer.MIN_VALUE), NONE);
        c.due("best(most)", x.best(Integer.MAX_VALUE), NONE);
    }

    private static void bestOfEqualOnes() {
        c.part("promise 15, equal ones");
        TwoCars x = new TwoCars();
        x.at(9);
        x.at(9);
        x.at(1);
        c.due("nobody waits: best(1)", x.best(1), 1);
        c.due("nobody waits: best(2)", x.best(2), 3);
        x.person(0, 4, 9);
        c.due("three days with 0: best(1)", x.best(1), 1);
        x.person(0, 4, 1);
        // 8, 8 or (the later one is not yet there) 0
        c.due("best(1)", x.best(1), 4);
    }

    private static void bestOfEight() {
        c.part("promise 15, eight");
        TwoCars x = new TwoCars();
        x.line(16);
        x.set(0, 9);
        for (int place = 1; place < 16; place++) {
            x.halt(place, true);
        }
        for (int who = 0; who < 60; who++) {
            x.person(who % 17, (who * 5 + 3) % 17 == who % 17 ? (who + 1) % 17 : (who * 5 + 3) % 17, who * 16);
        }
        c.due("count(1)", x.count(1), 60);
        for (int i = 0; i < 8; i++) {
            x.at(i * 37 * 100 % 2001);
        }
        for (int k = 0; k <= 8; k++) {
            int found = x.best(k);
            c.due("bits of best(" + k + ")", Integer.bitCount(found), k);
            int sum = x.day(found);
            for (int bits = 0; bits < 256 && k < 2; bits++) {
                if (Integer.bitCount(bits) == k) {
                    int other = x.day(bits);
                    c.yes("none is better", other > sum || other == sum && bits >= found);
                }
            }
        }
        c.due("best(9)", x.best(9), NONE);
        c.due("day(255) is best(8)", x.best(8), 255);
        c.due("day(256)", x.day(256), NONE);
    }
}
