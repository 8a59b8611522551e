/** Every boundary that promises 7 to 11 and the terms of a RIDE name. */
public final class RideBoundsTest {
    private static final int NONE = TwoCars.NONE;
    private static final int LOWEST = Integer.MIN_VALUE;
    private static final int HIGHEST = Integer.MAX_VALUE;
    private static final Check c = new Check();

    public static void main(String[] args) {
        rideBelowZero();
        rideBelowTheLatestEnd();
        rideAbove2000();
        rideBehind2000();
        rideToTheOtherEnd();
        firstStopAtMinuteT();
        stopTakesOneMinute();
        noUseTakesNoMinute();
        lastStopTakesNone();
        nobodyBoardsAtTheLastStop();
        useByAMinuteNotBehindTheTime();
        useNotByTheMinuteOfTheStop();
        useByRoom();
        useByRoomBehindThoseWhoGetOff();
        useOnlyOnItsWay();
        useOnlyOfThisHalt();
        boardAsLongAsThereIsRoom();
        boardByMinute();
        boardByNumber();
        carAtNoHalt();
        meeting();
        idle();
        stopAtEveryPlace();
        heavyUp();
        heavyDown();
        heavyWithoutMotor();
        greatestPossiblePull();
        countOthers();
        countWithout();
        countFull();
        ofOthers();
        ofNobody();
        ofTheLast();
        ofBeforeAndBehind();
        rodeWithout();
        rodeOthers();
        rodeOfTheLatestAlone();
        rodeFirstOfEqualSteps();
        rodeLastStep();
        againWithout();
        againFull();
        againAtMinuteZero();
        theCall512();
        c.end();
    }

    private static void rideBelowZero() {
        c.part("promise 7, t from 0 on without a RIDE");
        TwoCars x = new TwoCars();
        c.due("ride(-1)", x.ride(-1), NONE);
        c.due("ride(lowest)", x.ride(LOWEST), NONE);
        c.due("count(8)", x.count(8), 0);
        c.due("ride(0)", x.ride(0), 4);
        c.due("count(8)", x.count(8), 1);
    }

    private static void rideBelowTheLatestEnd() {
        c.part("promise 7, not ahead of the end of the latest one");
        TwoCars x = new TwoCars();
        x.ride(10);
        c.due("ride(10)", x.ride(10), NONE);
        c.due("ride(13)", x.ride(13), NONE);
        c.due("ride(14)", x.ride(14), 18);
        c.due("ride(17)", x.ride(17), NONE);
        c.due("ride(19)", x.ride(19), 23);
    }

    private static void rideAbove2000() {
        c.part("promise 7, above 2000");
        TwoCars x = new TwoCars();
        c.due("ride(2001)", x.ride(2001), NONE);
        c.due("ride(highest)", x.ride(HIGHEST), NONE);
        c.due("count(3)", x.count(3), 0);
        c.due("ride(2000)", x.ride(2000), 2004);
    }

    private static void rideBehind2000() {
        c.part("promise 7, the latest one ends at 2000 or behind");
        TwoCars x = new TwoCars();
        c.due("ride(1996)", x.ride(1996), 2000);
        c.due("ride(1999)", x.ride(1999), NONE);
        c.due("ride(2000)", x.ride(2000), 2004);
        for (int t : new int[] {2000, 2003, 2004, 2005}) {
            c.due("ride(" + t + ")", x.ride(t), NONE);
        }
        TwoCars y = new TwoCars();
        c.due("ride(1997)", y.ride(1997), 2001);
        c.due("ride(2000)", y.ride(2000), NONE);
        c.due("ride(2001)", y.ride(2001), NONE);
        c.due("count(8)", y.count(8), 1);
    }

    private static void rideToTheOtherEnd() {
        c.part("promise 7, A goes to the other end");
        for (int n = 2; n <= 16; n += 2) {
            TwoCars x = new TwoCars();
            x.line(n);
            c.due("up", x.ride(0), n);
            c.due("above", x.count(2), n);
            c.due("down", x.ride(n), 2 * n);
            c.due("below", x.count(2), 0);
            c.due("up again", x.ride(2 * n), 3 * n);
            c.due("above again", x.count(2), n);
        }
    }

    private static void firstStopAtMinuteT() {
        c.part("term 2, t is the time of the first STOP");
        TwoCars x = new TwoCars();
        x.person(0, 4, 4);
        x.person(0, 4, 5);
        x.person(0, 4, 6);
        x.person(4, 0, 5);
        x.person(4, 0, 6);
        c.due("ride(5) takes no minute for it", x.ride(5), 9);
        c.due("minute 4", x.of(0, 4), 5);
        c.due("minute 5", x.of(1, 4), 5);
        c.due("minute 6", x.of(2, 4), NONE);
        c.due("minute 5, above", x.of(3, 4), 5);
        c.due("minute 6, above", x.of(4, 4), NONE);
    }

    private static void stopTakesOneMinute() {
        c.part("term 2, a STOP takes one minute");
        TwoCars x = new TwoCars();
        x.halt(2, true);
        x.person(0, 2, 0);
        c.due("ride(0)", x.ride(0), 5);
        c.due("it has come at the time of the STOP", x.of(0, 5), 2);
        c.due("rode(0)", x.rode(0), 1);
        c.due("rode(6)", x.rode(6), 5);
    }

    private static void noUseTakesNoMinute() {
        c.part("term 2, no STOP without USE");
        TwoCars x = new TwoCars();
        x.halt(1, true);
        x.halt(2, true);
        x.halt(3, true);
        x.person(0, 4, 0);
        c.due("ride(0)", x.ride(0), 4);
        c.due("rode(0)", x.rode(0), 0);
    }

    private static void lastStopTakesNone() {
        c.part("term 2, at the last PLACE a STOP that takes none");
        TwoCars x = new TwoCars();
        x.person(0, 4, 0);
        x.person(4, 0, 0);
        c.due("ride(0)", x.ride(0), 4);
        c.due("came above", x.of(0, 5), 4);
        c.due("came below", x.of(1, 5), 4);
        c.due("rode(0)", x.rode(0), 0);
    }

    private static void nobodyBoardsAtTheLastStop() {
        c.part("term 2, nobody boards at the last STOP");
        TwoCars x = new TwoCars();
        x.person(4, 0, 1);
        x.person(4, 0, 4);
        x.person(0, 4, 4);
        c.due("ride(0)", x.ride(0), 4);
        c.due("all wait", x.count(4), 3);
        c.due("nobody boarded", x.rode(5), 0);
        c.due("ride(4)", x.ride(4), 8);
        c.due("now they do", x.rode(5), 3);
        c.due("at 4", x.of(1, 4), 4);
    }

    private static void useByAMinuteNotBehindTheTime() {
        c.part("term 2, USE: from a MINUTE not behind the time");
        for (int run = 1; run <= 9; run += 4) {
            TwoCars x = new TwoCars();
            x.set(0, run);
            x.halt(1, true);
            x.person(1, 4, run);
            c.due("at the time: a STOP", x.ride(0), 4 * run + 1);
            c.due("boarded", x.of(0, 4), run);
            TwoCars y = new TwoCars();
            y.set(0, run);
            y.halt(1, true);
            y.person(1, 4, run + 1);
            c.due("one behind: none", y.ride(0), 4 * run);
            c.due("waits", y.of(0, 0), 0);
        }
    }

    private static void useNotByTheMinuteOfTheStop() {
        c.part("term 2, who comes in the minute of the STOP does not board");
        TwoCars x = new TwoCars();
        x.halt(1, true);
        x.person(1, 4, 1);
        x.person(1, 4, 2);
        c.due("ride(0)", x.ride(0), 5);
        c.due("there at 1", x.of(0, 4), 1);
        c.due("there at 2", x.of(1, 4), NONE);
    }

    private static void useByRoom() {
        c.part("term 2, USE: there is ROOM");
        for (int inside = 3; inside <= 4; inside++) {
            TwoCars x = new TwoCars();
            x.halt(1, true);
            for (int who = 0; who < inside; who++) {
                x.person(0, 4, 0);
            }
            x.person(1, 4, 0);
            boolean full = inside == 4;
            c.due(inside + " inside: ride(0)", x.ride(0), full ? 4 : 5);
            c.due(inside + " inside: rode(0)", x.rode(0), full ? 0 : 1);
            c.due(inside + " inside: who waits", x.count(4), full ? 1 : 0);
        }
    }

    private static void useByRoomBehindThoseWhoGetOff() {
        c.part("term 2, ROOM is counted behind those who get off");
        TwoCars x = new TwoCars();
        x.set(1, 2);
        x.halt(1, true);
        x.person(0, 1, 0);
        x.person(0, 4, 0);
        x.person(1, 4, 0);
        x.person(1, 4, 0);
        c.due("ride(0)", x.ride(0), 5);
        c.due("one gets off", x.of(0, 5), 1);
        c.due("one boards", x.of(2, 4), 1);
        c.due("the next does not", x.of(3, 4), NONE);
        c.due("rode(5)", x.rode(5), 3);
    }

    private static void useOnlyOnItsWay() {
        c.part("term 2, USE: to a HALT farther on its way");
        TwoCars x = new TwoCars();
        x.halt(1, true);
        x.person(1, 0, 0);
        c.due("B takes it down", x.ride(0), 5);
        c.due("as it comes by at 3", x.of(0, 4), 3);
        TwoCars y = new TwoCars();
        y.halt(1, true);
        y.halt(2, true);
        y.person(1, 2, 0);
        c.due("A takes it up by one PLACE", y.ride(0), 6);
        c.due("at 1", y.of(0, 4), 1);
        c.due("to 2", y.of(0, 5), 3);
    }

    private static void useOnlyOfThisHalt() {
        c.part("term 2, USE: somebody waits there, goes to that HALT");
        TwoCars x = new TwoCars();
        x.line(8);
        for (int place = 1; place < 8; place++) {
            x.halt(place, true);
        }
        x.person(3, 8, 0);
        c.due("waits at 3, not at 2 or 4", x.ride(0), 9);
        c.rode(x, 1, 1, 0, 80, 3, 1, 9);
        x.line(8);
        for (int place = 1; place < 8; place++) {
            x.halt(place, true);
        }
        x.person(8, 5, 0);
        c.due("goes to 5, not to 6 or 4", x.ride(0), 9);
        c.rode(x, 1, 1, 0, 80, 0, 1, 9);
        c.due("it has come at 3", x.of(0, 5), 3);
    }

    private static void boardAsLongAsThereIsRoom() {
        c.part("term 2, they board as long as there is ROOM");
        for (int waiting = 3; waiting <= 5; waiting++) {
            TwoCars x = new TwoCars();
            for (int who = 0; who < waiting; who++) {
                x.person(0, 4, 0);
            }
            x.ride(0);
            c.due(waiting + " wait: who boarded", x.rode(5), Math.min(waiting, 4));
            c.due(waiting + " wait: who waits", x.count(4), Math.max(0, waiting - 4));
        }
    }

    private static void boardByMinute() {
        c.part("term 2, the earlier MINUTE first");
        TwoCars x = new TwoCars();
        x.set(1, 1);
        x.person(0, 4, 8);
        x.person(0, 4, 7);
        c.due("ride(8)", x.ride(8), 12);
        c.due("minute 8 waits", x.of(0, 4), NONE);
        c.due("minute 7 boards", x.of(1, 4), 8);
    }

    private static void boardByNumber() {
        c.part("term 2, of equal ones the less number");
        TwoCars x = new TwoCars();
        x.set(1, 2);
        x.person(0, 4, 7);
        x.person(0, 4, 7);
        x.person(0, 4, 7);
        c.due("ride(8)", x.ride(8), 12);
        c.due("0", x.of(0, 4), 8);
        c.due("1", x.of(1, 4), 8);
        c.due("2", x.of(2, 4), NONE);
    }

    private static void carAtNoHalt() {
        c.part("term 2, a car at no HALT does nothing");
        TwoCars x = new TwoCars();
        x.halt(1, true);
        x.person(1, 4, 0);
        x.person(4, 0, 0);
        c.due("ride(0): B goes by 3 and rides on", x.ride(0), 5);
        c.rode(x, 1, 1, 0, 80, 0, 2, 5);
        c.due("B's passenger comes at the end", x.of(1, 5), 5);
    }

    private static void meeting() {
        c.part("term 1, at n/2 they meet");
        for (int n = 2; n <= 16; n += 2) {
            TwoCars x = new TwoCars();
            x.line(n);
            x.halt(n / 2, true);
            x.person(n / 2, n, 0);
            x.person(n / 2, 0, 0);
            c.due("ride(0)", x.ride(0), n + 1);
            c.due("up by A", x.of(0, 4), n / 2);
            c.due("down by B", x.of(1, 4), n / 2);
            c.rode(x, 1, 0, 0, 0, 0, 2, n + 1);
        }
    }

    private static void idle() {
        c.part("term 2, IDLE");
        TwoCars none = new TwoCars();
        c.due("no STOP", none.ride(0), 4);
        c.due("no STOP: rode(1)", none.rode(1), 0);
        TwoCars one = new TwoCars();
        one.halt(2, true);
        one.person(2, 4, 0);
        one.ride(0);
        c.due("B has no USE", one.rode(1), 1);
        TwoCars other = new TwoCars();
        other.halt(2, true);
        other.person(2, 0, 0);
        other.ride(0);
        c.due("A has no USE", other.rode(1), 1);
        TwoCars both = new TwoCars();
        both.halt(2, true);
        both.person(0, 2, 0);
        both.person(2, 0, 0);
        both.ride(0);
        c.due("both have USE", both.rode(1), 0);
        c.due("both have USE: a STOP", both.rode(0), 1);
    }

    private static void stopAtEveryPlace() {
        c.part("promise 10, STOPS between the ends, at most n - 1");
        TwoCars x = new TwoCars();
        x.line(16);
        x.set(0, 9);
        for (int place = 1; place < 16; place++) {
            x.halt(place, true);
            x.person(0, place, 0);
        }
        x.set(1, 15);
        c.due("ride(2000)", x.ride(2000), 2000 + 144 + 15);
        c.due("rode(0)", x.rode(0), 15);
        c.due("rode(1)", x.rode(1), 15);
        c.due("rode(6)", x.rode(6), 159);
        c.due("the last of them", x.of(14, 5), 2000 + 135 + 14);
        c.due("count(9)", x.count(9), 15 * 2000);
    }

    private static void heavyUp() {
        c.part("term 2, HEAVY: above MOTOR");
        for (int motor = 79; motor <= 81; motor++) {
            TwoCars x = new TwoCars();
            x.set(4, motor);
            x.person(0, 4, 0);
            x.ride(0);
            c.due("pull 80, motor " + motor, x.rode(2), motor < 80 ? 4 : 0);
        }
    }

    private static void heavyDown() {
        c.part("term 2, HEAVY: in size");
        for (int motor = 79; motor <= 81; motor++) {
            TwoCars x = new TwoCars();
            x.set(4, motor);
            x.person(4, 0, 0);
            x.ride(0);
            c.due("pull -80, motor " + motor, x.rode(2), motor < 80 ? 4 : 0);
            c.due("its size", x.rode(3), 80);
        }
    }

    private static void heavyWithoutMotor() {
        c.part("term 2, HEAVY: MOTOR 0");
        TwoCars x = new TwoCars();
        x.set(4, 0);
        x.ride(0);
        c.due("pull 0 is not above 0", x.rode(2), 0);
        x.set(3, 1);
        x.person(4, 0, 0);
        x.ride(4);
        c.due("pull -10 is", x.rode(2), 4);
    }

    private static void greatestPossiblePull() {
        c.part("promise 10, the greatest PULL that there is");
        TwoCars x = new TwoCars();
        x.line(2);
        x.height(2, 999);
        x.height(1, 0);
        x.set(1, 20);
        x.set(2, 500);
        x.set(3, 500);
        x.set(4, 1000000);
        for (int who = 0; who < 21; who++) {
            x.person(0, 2, 0);
        }
        x.ride(0);
        c.rode(x, 0, 0, 1, 10500 * 999, 1, 20, 2);
    }

    private static void countOthers() {
        c.part("promise 8, another what");
        TwoCars x = new TwoCars();
        for (int what : new int[] {-1, 10, 11, LOWEST, HIGHEST}) {
            c.due("count(" + what + ")", x.count(what), NONE);
        }
        c.due("count(0)", x.count(0), 4);
        c.due("count(9)", x.count(9), 0);
    }

    private static void countWithout() {
        c.part("promise 8, without PEOPLE and RIDES");
        TwoCars x = new TwoCars();
        c.counts(x, 4, 0, 0, 0, 0, 0, 0, 0, 0, 0);
        x.line(16);
        c.counts(x, 16, 0, 0, 0, 0, 0, 0, 0, 0, 0);
    }

    private static void countFull() {
        c.part("promise 8, all PEOPLE there may be");
        TwoCars x = new TwoCars();
        x.set(1, 20);
        for (int who = 0; who < 60; who++) {
            x.person(0, 4, 999);
        }
        c.counts(x, 4, 60, 0, 0, 60, 0, 0, 0, 0, 0);
        x.ride(998);
        c.counts(x, 4, 60, 4, 1002, 60, 0, 0, 0, 1, 0);
        x.ride(1002);
        c.counts(x, 4, 60, 0, 1006, 40, 0, 0, 20, 2, 60);
        x.ride(1006);
        x.ride(2000);
        c.counts(x, 4, 60, 0, 2004, 0, 0, 0, 60, 4, 60 + 20 * 7 + 20 * 1001);
    }

    private static void ofOthers() {
        c.part("promise 9, another what");
        TwoCars x = new TwoCars();
        x.person(4, 0, 7);
        for (int what : new int[] {-1, 6, 7, LOWEST, HIGHEST}) {
            c.noSuch(x, 0, what);
        }
        c.due("of(0, 0)", x.of(0, 0), 0);
        c.due("of(0, 5)", x.of(0, 5), NONE);
    }

    private static void ofNobody() {
        c.part("promise 9, none such");
        TwoCars x = new TwoCars();
        for (int what = -1; what <= 6; what++) {
            c.noSuch(x, 0, what);
        }
        x.person(0, 4, 0);
        c.due("of(0, 1)", x.of(0, 1), 0);
        for (int who : new int[] {-1, 1, 59, 60, LOWEST, HIGHEST}) {
            c.noSuch(x, who, 1);
        }
        x.line(4);
        c.noSuch(x, 0, 1);
    }

    private static void ofTheLast() {
        c.part("promise 9, the last of 60");
        TwoCars x = new TwoCars();
        for (int who = 0; who < 60; who++) {
            x.person(0, 4, who);
        }
        c.person(x, 59, 0, 0, 4, 59, NONE, NONE);
        c.noSuch(x, 60, 0);
        c.noSuch(x, 59, 6);
        x.again();
        c.person(x, 59, 0, 0, 4, 59, NONE, NONE);
    }

    private static void ofBeforeAndBehind() {
        c.part("promise 9, the times at which it boarded and came (NONE)");
        TwoCars x = new TwoCars();
        x.person(0, 4, 0);
        c.person(x, 0, 0, 0, 4, 0, NONE, NONE);
        x.ride(0);
        c.person(x, 0, 3, 0, 4, 0, 0, 4);
        x.again();
        c.person(x, 0, 0, 0, 4, 0, NONE, NONE);
        x.ride(2000);
        c.person(x, 0, 3, 0, 4, 0, 2000, 2004);
    }

    private static void rodeWithout() {
        c.part("promise 10, there was none");
        TwoCars x = new TwoCars();
        noneRode(x);
        x.ride(-1);
        x.ride(2001);
        noneRode(x);
        x.ride(0);
        c.due("rode(6)", x.rode(6), 4);
        x.again();
        noneRode(x);
        x.ride(0);
        x.line(4);
        noneRode(x);
        x.at(0);
        x.day(1);
        noneRode(x);
    }

    private static void noneRode(TwoCars x) {
        for (int what = -1; what <= 7; what++) {
            c.due("rode(" + what + ")", x.rode(what), NONE);
        }
    }

    private static void rodeOthers() {
        c.part("promise 10, another what");
        TwoCars x = new TwoCars();
        x.ride(0);
        for (int what : new int[] {-1, 7, 8, LOWEST, HIGHEST}) {
            c.due("rode(" + what + ")", x.rode(what), NONE);
        }
        c.rode(x, 0, 0, 0, 0, 0, 0, 4);
    }

    private static void rodeOfTheLatestAlone() {
        c.part("promise 10, of the latest RIDE");
        TwoCars x = new TwoCars();
        x.set(4, 0);
        x.halt(1, true);
        x.person(1, 4, 0);
        x.ride(0);
        c.rode(x, 1, 1, 3, 80, 1, 1, 5);
        x.ride(5);
        c.rode(x, 0, 0, 0, 0, 0, 0, 4);
        c.due("a refused one", x.ride(0), NONE);
        c.rode(x, 0, 0, 0, 0, 0, 0, 4);
    }

    private static void rodeFirstOfEqualSteps() {
        c.part("promise 10, its first step");
        TwoCars x = new TwoCars();
        x.ride(0);
        c.due("all are 0", x.rode(4), 0);
        x.person(4, 0, 0);
        x.ride(4);
        c.due("all are -80", x.rode(4), 0);
        x.line(4);
        x.height(1, 11);
        x.ride(0);
        // 1100 - 1000, 900 - 1000, 1000 - 900, 1000 - 1100
        c.rode(x, 0, 0, 0, 100, 0, 0, 4);
        x.line(4);
        x.height(2, 19);
        x.ride(0);
        // 1000 - 1000, 900 - 1100, 1100 - 900, 1000 - 1000
        c.rode(x, 0, 0, 0, 200, 1, 0, 4);
    }

    private static void rodeLastStep() {
        c.part("promise 10, the number of PLACES gone ahead of it");
        for (int from = 1; from < 16; from++) {
            TwoCars x = new TwoCars();
            x.line(16);
            x.halt(from, true);
            x.person(from, 16, 0);
            x.ride(0);
            c.due("boards at " + from, x.rode(4), from);
            c.due("pull", x.rode(3), 80);
        }
    }

    private static void againWithout() {
        c.part("promise 11, without PEOPLE");
        TwoCars x = new TwoCars();
        c.due("again()", x.again(), 0);
        x.ride(0);
        c.due("again() behind a RIDE", x.again(), 0);
        c.counts(x, 4, 0, 0, 0, 0, 0, 0, 0, 0, 0);
    }

    private static void againFull() {
        c.part("promise 11, with all PEOPLE there may be");
        TwoCars x = new TwoCars();
        for (int who = 0; who < 60; who++) {
            x.person(0, 4, 0);
        }
        x.ride(0);
        c.due("again()", x.again(), 60);
        c.counts(x, 4, 60, 0, 0, 60, 0, 0, 0, 0, 0);
        x.line(4);
        c.due("behind line()", x.again(), 0);
    }

    private static void againAtMinuteZero() {
        c.part("promise 11, MINUTE 0, A at 0");
        TwoCars x = new TwoCars();
        x.ride(2000);
        c.due("ride(2000)", x.ride(2000), NONE);
        x.again();
        c.due("ride(-1)", x.ride(-1), NONE);
        c.due("ride(0)", x.ride(0), 4);
        c.due("A went up", x.count(2), 4);
        c.due("bent(0)", x.bent(0), 1);
    }

    private static void theCall512() {
        c.part("at most 512 calls");
        TwoCars x = new TwoCars();
        x.line(2);
        for (int ride = 0; ride < 509; ride++) {
            c.due("ride", x.ride(2 * ride), 2 * ride + 2);
        }
        c.due("call 511: off()", x.off(), 1);
        c.due("call 512: count(8)", x.count(8), 509);
    }
}
