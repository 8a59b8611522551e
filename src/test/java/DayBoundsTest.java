/** Every boundary that promises 12 to 15 and the terms of a DAY name. */
public final class DayBoundsTest {
    private static final int NONE = TwoCars.NONE;
    private static final int LOWEST = Integer.MIN_VALUE;
    private static final int HIGHEST = Integer.MAX_VALUE;
    private static final Check c = new Check();

    public static void main(String[] args) {
        atBelowZero();
        atAbove2000();
        atEight();
        atNotAscending();
        atEqualOnes();
        clearEmpty();
        clearFull();
        listStaysBehindLineAndAgain();
        dayOfAnEmptyList();
        dayOfBitsPastTheList();
        dayOfEveryLength();
        dayWithoutRides();
        dayBeginsAtTheEndOfTheOneAhead();
        dayBeginsBehind2000();
        dayWaitOfWhoBoards();
        dayWaitOfWhoStillWaits();
        dayWaitAgainstTheLastEnd();
        dayBegunAsBehindAgain();
        dayByNumbersSet();
        dayChangesNothing();
        dayOfSixtyAndEight();
        bestBelowZero();
        bestOfNone();
        bestOfAll();
        bestOfMoreThanThereAre();
        bestOfEqualOnes();
        bestOfTheLastBits();
        bestOfTheMiddleBits();
        bestChangesNothing();
        c.end();
    }

    private static void atBelowZero() {
        c.part("promise 12, MINUTES from 0 on");
        TwoCars x = new TwoCars();
        c.due("at(-1)", x.at(-1), NONE);
        c.due("at(lowest)", x.at(LOWEST), NONE);
        c.due("at(0)", x.at(0), 1);
        c.due("clear()", x.clear(), 1);
    }

    private static void atAbove2000() {
        c.part("promise 12, MINUTES up to 2000");
        TwoCars x = new TwoCars();
        c.due("at(2001)", x.at(2001), NONE);
        c.due("at(highest)", x.at(HIGHEST), NONE);
        c.due("at(2000)", x.at(2000), 1);
        c.due("at(1999)", x.at(1999), 2);
        c.due("clear()", x.clear(), 2);
    }

    private static void atEight() {
        c.part("promise 12, 8");
        TwoCars x = new TwoCars();
        for (int i = 1; i <= 8; i++) {
            c.due("at(" + i + ")", x.at(i), i);
        }
        c.due("the ninth", x.at(9), NONE);
        c.due("one that is there", x.at(8), NONE);
        c.due("day(255)", x.day(255), 0);
        c.due("day(256)", x.day(256), NONE);
        c.due("clear()", x.clear(), 8);
        c.due("there is room again", x.at(9), 1);
    }

    private static void atNotAscending() {
        c.part("promise 12, ascending or not");
        TwoCars x = new TwoCars();
        x.person(0, 4, 3);
        c.due("at(9)", x.at(9), 1);
        c.due("at(0)", x.at(0), 2);
        c.due("at(5)", x.at(5), 3);
        c.due("bit 0 is minute 9", x.day(1), 6);
        c.due("bit 1 is minute 0: it waits until 4", x.day(2), 1);
        c.due("bit 2 is minute 5", x.day(4), 2);
        c.due("5 goes ahead of 9", x.day(5), 2);
        // 0 goes up without it; B, below at 4, goes up at 9
        c.due("0 goes ahead of 9", x.day(3), 6);
    }

    private static void atEqualOnes() {
        c.part("promise 12, equal MINUTES");
        TwoCars x = new TwoCars();
        c.due("at(7)", x.at(7), 1);
        c.due("at(7)", x.at(7), 2);
        c.due("best(2)", x.best(2), 3);
        c.due("clear()", x.clear(), 2);
    }

    private static void clearEmpty() {
        c.part("promise 13, an empty LIST");
        TwoCars x = new TwoCars();
        c.due("clear()", x.clear(), 0);
        x.at(-1);
        c.due("behind a refused one", x.clear(), 0);
        x.at(0);
        c.due("of one", x.clear(), 1);
        c.due("again", x.clear(), 0);
        c.due("day(1)", x.day(1), NONE);
    }

    private static void clearFull() {
        c.part("promise 13, a full LIST");
        TwoCars x = new TwoCars();
        for (int i = 0; i < 9; i++) {
            x.at(2000 - i);
        }
        c.due("clear()", x.clear(), 8);
        c.due("best(0)", x.best(0), 0);
        c.due("best(1)", x.best(1), NONE);
        for (int i = 1; i <= 8; i++) {
            c.due("at", x.at(0), i);
        }
        c.due("the ninth", x.at(0), NONE);
    }

    private static void listStaysBehindLineAndAgain() {
        c.part("promises 2 and 11, THE LIST is not named there");
        TwoCars x = new TwoCars();
        x.at(5);
        x.at(6);
        x.again();
        c.due("day(3)", x.day(3), 0);
        x.line(16);
        c.due("day(3)", x.day(3), 0);
        c.due("day(4)", x.day(4), NONE);
        c.due("clear()", x.clear(), 2);
    }

    private static void dayOfAnEmptyList() {
        c.part("promise 14, an empty LIST");
        TwoCars x = new TwoCars();
        c.due("day(0)", x.day(0), 0);
        for (int bits : new int[] {1, -1, 2, 255, 256, LOWEST, HIGHEST}) {
            c.due("day(" + bits + ")", x.day(bits), NONE);
        }
    }

    private static void dayOfBitsPastTheList() {
        c.part("promise 14, other bits");
        TwoCars x = new TwoCars();
        for (int i = 0; i < 8; i++) {
            x.at(i);
        }
        for (int bits : new int[] {-1, 256, 257, 1 << 16, 1 << 30, LOWEST, LOWEST + 1, HIGHEST}) {
            c.due("day(" + bits + ")", x.day(bits), NONE);
        }
        c.due("day(0)", x.day(0), 0);
        c.due("day(255)", x.day(255), 0);
    }

    private static void dayOfEveryLength() {
        c.part("promise 14, the bits that a LIST of each length has");
        TwoCars x = new TwoCars();
        for (int many = 0; many <= 8; many++) {
            c.due("all of " + many, x.day((1 << many) - 1), 0);
            c.due("one bit more than " + many, x.day(1 << many), NONE);
            x.at(many);
        }
    }

    private static void dayWithoutRides() {
        c.part("term 2, the end of a DAY: 0 without RIDES");
        TwoCars x = new TwoCars();
        x.person(0, 4, 0);
        x.person(4, 0, 999);
        x.at(2000);
        c.due("day(0)", x.day(0), 0);
        x.ride(50);
        c.due("day(0) behind a ride", x.day(0), 0);
    }

    /** The sum of a day with rides at 0 and at the minute told; one is above from minute 5 on. */
    private static int secondRideAt(int minute) {
        TwoCars x = new TwoCars();
        x.person(4, 0, 5);
        x.at(0);
        x.at(minute);
        return x.day(3);
    }

    private static void dayBeginsAtTheEndOfTheOneAhead() {
        c.part("term 2, a MINUTE ahead of the end of the one ahead");
        c.due("0: it begins at 4, ends at 8", secondRideAt(0), 3);
        c.due("3: it begins at 4, ends at 8", secondRideAt(3), 3);
        c.due("4: the end itself", secondRideAt(4), 3);
        c.due("5: behind the end", secondRideAt(5), 0);
        c.due("6: behind the end", secondRideAt(6), 1);
    }

    private static void dayBeginsBehind2000() {
        c.part("term 2, the one ahead ends behind 2000");
        TwoCars x = new TwoCars();
        x.set(1, 1);
        x.person(0, 4, 0);
        x.person(0, 4, 0);
        x.person(0, 4, 0);
        x.at(2000);
        x.at(2000);
        x.at(2000);
        c.due("one: 2000, two wait until 2004", x.day(1), 2000 + 2 * 2004);
        c.due("two: 2000, 2004, one waits until 2008", x.day(3), 2000 + 2004 + 2008);
        c.due("three: 2000, 2004, 2008", x.day(7), 2000 + 2004 + 2008);
    }

    private static void dayWaitOfWhoBoards() {
        c.part("term 2, WAIT of one who boards");
        TwoCars x = new TwoCars();
        x.person(0, 4, 9);
        x.at(9);
        x.at(10);
        x.at(8);
        c.due("there at the time", x.day(1), 0);
        c.due("there one ahead", x.day(2), 1);
        c.due("there one behind: until the end, 12", x.day(4), 3);
    }

    private static void dayWaitOfWhoStillWaits() {
        c.part("term 2, WAIT of one who still waits, 0 at least");
        TwoCars x = new TwoCars();
        x.at(0);
        x.person(4, 0, 5);
        c.due("MINUTE behind the end", x.day(1), 0);
        x.person(4, 0, 4);
        c.due("MINUTE at the end", x.day(1), 0);
        x.person(4, 0, 3);
        c.due("MINUTE ahead of the end", x.day(1), 1);
        x.person(4, 0, 999);
        c.due("none counts below 0", x.day(1), 1);
    }

    private static void dayWaitAgainstTheLastEnd() {
        c.part("term 2, the end of the last RIDE");
        TwoCars x = new TwoCars();
        x.set(1, 1);
        x.person(0, 4, 0);
        x.person(0, 4, 0);
        x.at(0);
        x.at(100);
        x.at(200);
        c.due("one", x.day(1), 4);
        c.due("two: B takes the second", x.day(3), 100);
        x.person(4, 0, 101);
        c.due("two: the third waits until 104", x.day(3), 100 + 3);
        c.due("three: B takes the third at 200", x.day(7), 100 + 99);
    }

    private static void dayBegunAsBehindAgain() {
        c.part("promise 14, begun as behind again()");
        TwoCars x = new TwoCars();
        x.person(0, 4, 0);
        x.person(4, 0, 2);
        x.at(1);
        c.due("day(1)", x.day(1), 1 + 3);
        x.ride(2000);
        c.due("all have come, A is above, it is late", x.day(1), 1 + 3);
        x.again();
        c.due("behind again()", x.day(1), 1 + 3);
    }

    private static void dayByNumbersSet() {
        c.part("promise 14, numbers set count");
        TwoCars x = new TwoCars();
        x.person(4, 0, 0);
        x.person(4, 0, 1);
        x.at(0);
        c.due("until 4", x.day(1), 3);
        x.set(0, 9);
        c.due("until 36", x.day(1), 35);
        x.set(0, 1);
        x.line(16);
        x.person(16, 0, 1);
        c.due("until 16", x.day(1), 15);
    }

    private static void dayChangesNothing() {
        c.part("promise 14, nothing changes");
        TwoCars x = new TwoCars();
        x.set(5, 1);
        x.person(0, 4, 0);
        x.at(0);
        x.at(1);
        x.at(2);
        c.due("day(7)", x.day(7), 0);
        c.counts(x, 4, 1, 0, 0, 1, 0, 0, 0, 0, 0);
        c.rode(x, NONE, NONE, NONE, NONE, NONE, NONE, NONE);
        c.person(x, 0, 0, 0, 4, 0, NONE, NONE);
        c.due("bent(0)", x.bent(0), 0);
        c.due("off()", x.off(), 0);
        c.due("ride(0)", x.ride(0), 4);
        c.due("day(8)", x.day(8), NONE);
        c.due("count(3)", x.count(3), 4);
    }

    private static void dayOfSixtyAndEight() {
        c.part("promise 14, all PEOPLE and MINUTES there may be");
        TwoCars x = new TwoCars();
        x.set(1, 20);
        for (int who = 0; who < 60; who++) {
            x.person(0, 4, 0);
        }
        for (int i = 0; i < 8; i++) {
            x.at(2000);
        }
        c.due("day(255)", x.day(255), 20 * 2000 + 20 * 2004 + 20 * 2008);
        c.due("day(1)", x.day(1), 20 * 2000 + 40 * 2004);
        x.set(1, 1);
        // 2000, 2004 .. 2028, the end is 2032
        c.due("day(255), one a ride", x.day(255), 8 * 2014 + 52 * 2032);
    }

    private static void bestBelowZero() {
        c.part("promise 15, k below 0");
        TwoCars x = new TwoCars();
        x.at(0);
        c.due("best(-1)", x.best(-1), NONE);
        c.due("best(lowest)", x.best(LOWEST), NONE);
        c.due("best(0)", x.best(0), 0);
    }

    private static void bestOfNone() {
        c.part("promise 15, no MINUTE");
        TwoCars x = new TwoCars();
        x.person(0, 4, 0);
        c.due("of an empty list", x.best(0), 0);
        for (int many = 1; many <= 8; many++) {
            x.at(0);
            c.due("of " + many, x.best(0), 0);
        }
    }

    private static void bestOfAll() {
        c.part("promise 15, all MINUTES");
        TwoCars x = new TwoCars();
        x.person(0, 4, 0);
        for (int many = 1; many <= 8; many++) {
            x.at(2000 - many);
            c.due("of " + many, x.best(many), (1 << many) - 1);
        }
    }

    private static void bestOfMoreThanThereAre() {
        c.part("promise 15, not so many");
        TwoCars x = new TwoCars();
        for (int many = 0; many <= 8; many++) {
            c.due("one more than " + many, x.best(many + 1), NONE);
            x.at(0);
        }
        c.due("best(8)", x.best(8), 255);
        for (int k : new int[] {9, 32, 33, HIGHEST}) {
            c.due("best(" + k + ")", x.best(k), NONE);
        }
    }

    private static void bestOfEqualOnes() {
        c.part("promise 15, of equal ones the least bits");
        TwoCars x = new TwoCars();
        for (int i = 0; i < 8; i++) {
            x.at(7);
        }
        for (int k = 0; k <= 8; k++) {
            c.due("nobody: best(" + k + ")", x.best(k), (1 << k) - 1);
        }
        x.person(0, 4, 0);
        for (int k = 0; k <= 8; k++) {
            c.due("alike: best(" + k + ")", x.best(k), (1 << k) - 1);
        }
    }

    private static void bestOfTheLastBits() {
        c.part("promise 15, the least sum of WAITS");
        TwoCars x = new TwoCars();
        x.person(0, 4, 0);
        for (int i = 0; i < 8; i++) {
            x.at(80 - 10 * i);
        }
        c.due("best(1): the last, at 10", x.best(1), 128);
        c.due("its sum", x.day(128), 10);
        // the first takes it; which the second is, is alike
        c.due("best(2)", x.best(2), 129);
        c.due("best(7)", x.best(7), 255 - 64);
        x.person(4, 0, 11);
        // the second ride takes it: at 20 (9), not at 80
        c.due("best(2), the next to the last", x.best(2), 192);
    }

    private static void bestOfTheMiddleBits() {
        c.part("promise 15, the least sum is neither the first nor the last");
        TwoCars x = new TwoCars();
        x.person(0, 4, 5);
        x.at(30);
        x.at(10);
        x.at(20);
        x.at(40);
        c.due("best(1): 25, 5, 15, 35", x.best(1), 2);
        x.person(4, 0, 25);
        // 10 and 30: 5 and 5; 10 and 20: 5, and the second comes behind the end, 24
        c.due("best(2)", x.best(2), 6);
        c.due("day(3)", x.day(3), 10);
        c.due("day(6)", x.day(6), 5);
        x.clear();
        x.at(5);
        x.at(9);
        x.at(8);
        // the second waits from 25 on, behind each end
        c.due("best(1): the first", x.best(1), 1);
    }

    private static void bestChangesNothing() {
        c.part("promise 15, nothing changes");
        TwoCars x = new TwoCars();
        x.person(0, 4, 0);
        x.at(3);
        x.at(2);
        x.ride(1);
        c.due("best(1)", x.best(1), 2);
        c.due("best(3)", x.best(3), NONE);
        c.counts(x, 4, 1, 4, 5, 0, 0, 0, 1, 1, 1);
        c.rode(x, 0, 0, 0, 80, 0, 1, 4);
        c.due("bent(0)", x.bent(0), 1);
        c.due("clear()", x.clear(), 2);
    }
}
