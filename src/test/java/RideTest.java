/** Promises 7 to 11: ride, count, of, rode, again. */
public final class RideTest {
    private static final int NONE = TwoCars.NONE;
    private static final Check c = new Check();

    public static void main(String[] args) {
        starts();
        stopsOfOneRide();
        stopOfUseToBoth();
        fullCarHasNoUse();
        roomBehindThoseWhoGetOff();
        minuteNotBehindTheTime();
        boardingOrder();
        whoGoesTheOtherWayWaits();
        carPassesAPlaceThatIsNoHalt();
        carPassesAHaltWhereNobodyIs();
        pulls();
        heavyAboveMotor();
        counts();
        wrongPersons();
        wrongKinds();
        again();
        c.end();
    }

    private static void starts() {
        c.part("promise 7, starts");
        TwoCars x = new TwoCars();
        c.due("ride(-1)", x.ride(-1), NONE);
        c.due("ride(least)", x.ride(Integer.MIN_VALUE), NONE);
        c.due("ride(2001)", x.ride(2001), NONE);
        c.due("ride(most)", x.ride(Integer.MAX_VALUE), NONE);
        c.counts(x, 4, 0, 0, 0, 0, 0, 0, 0, 0, 0);
        c.due("ride(10)", x.ride(10), 14);
        c.due("ride(13)", x.ride(13), NONE);
        c.counts(x, 4, 0, 4, 14, 0, 0, 0, 0, 1, 0);
        c.due("ride(14)", x.ride(14), 18);
        c.counts(x, 4, 0, 0, 18, 0, 0, 0, 0, 2, 0);
        x.set(0, 9);
        c.due("ride(2000)", x.ride(2000), 2036);
        c.due("ride(2000) once more", x.ride(2000), NONE);
        c.due("ride(2036)", x.ride(2036), NONE);
        x.line(16);
        c.due("ride(0)", x.ride(0), 144);
    }

    private static void stopsOfOneRide() {
        c.part("promise 7, stops");
        TwoCars x = new TwoCars();
        x.line(6);
        x.halt(2, true);
        x.halt(3, true);
        x.set(0, 2);
        x.person(0, 2, 0);
        x.person(2, 6, 3);
        x.person(6, 3, 0);
        x.person(3, 0, 7);
        x.person(2, 0, 0);
        c.due("ride(1)", x.ride(1), 16);
        c.person(x, 0, 3, 0, 2, 0, 1, 5);
        c.person(x, 1, 3, 2, 6, 3, 5, 16);
        c.person(x, 2, 3, 6, 3, 0, 1, 8);
        c.person(x, 3, 3, 3, 0, 7, 8, 16);
        c.person(x, 4, 3, 2, 0, 0, 11, 16);
        c.rode(x, 3, 3, 0, 80, 4, 5, 15, NONE);
        c.counts(x, 6, 5, 6, 16, 0, 0, 0, 5, 1, 16, NONE);
    }

    private static void stopOfUseToBoth() {
        c.part("promise 10, a stop that both have use for");
        TwoCars x = new TwoCars();
        x.halt(1, true);
        x.halt(3, true);
        x.person(1, 4, 0);
        x.person(3, 0, 0);
        c.due("ride(0)", x.ride(0), 5);
        c.rode(x, 1, 0, 0, 0, 0, 2, 5);
        c.due("ride(5)", x.ride(5), 9);
        c.rode(x, 0, 0, 0, 0, 0, 0, 4);
    }

    private static void fullCarHasNoUse() {
        c.part("terms, room");
        TwoCars x = new TwoCars();
        x.set(1, 1);
        x.halt(1, true);
        x.person(0, 4, 0);
        x.person(1, 4, 0);
        c.due("ride(0)", x.ride(0), 4);
        c.rode(x, 0, 0, 0, 80, 0, 1, 4);
        c.person(x, 1, 0, 1, 4, 0, NONE, NONE);
        c.due("ride(4): B goes up", x.ride(4), 9);
        c.person(x, 1, 3, 1, 4, 0, 5, 9);
    }

    private static void roomBehindThoseWhoGetOff() {
        c.part("terms, room behind those who get off");
        TwoCars x = new TwoCars();
        x.set(1, 1);
        x.halt(1, true);
        x.person(0, 1, 0);
        x.person(1, 4, 0);
        x.person(1, 4, 0);
        c.due("ride(0)", x.ride(0), 5);
        c.person(x, 0, 3, 0, 1, 0, 0, 1);
        c.person(x, 1, 3, 1, 4, 0, 1, 5);
        c.person(x, 2, 0, 1, 4, 0, NONE, NONE);
    }

    private static void minuteNotBehindTheTime() {
        c.part("terms, minute not behind the time");
        TwoCars x = new TwoCars();
        x.halt(1, true);
        x.person(0, 4, 3);
        x.person(0, 4, 4);
        x.person(1, 4, 4);
        x.person(1, 4, 5);
        c.due("ride(3)", x.ride(3), 8);
        c.due("at the start", x.of(0, 4), 3);
        c.due("a minute late", x.of(1, 4), NONE);
        c.due("on the way", x.of(2, 4), 4);
        c.due("who comes while the cars stand", x.of(3, 4), NONE);
        x.line(4);
        x.halt(1, true);
        x.person(1, 4, 2);
        c.due("no use yet", x.ride(0), 4);
        c.due("rode(0)", x.rode(0), 0);
    }

    private static void boardingOrder() {
        c.part("terms, who boards first");
        TwoCars x = new TwoCars();
        x.set(1, 1);
        int[] minutes = {5, 3, 4, 3, 5, 2};
        for (int minute : minutes) {
            x.person(0, 4, minute);
        }
        // one car or the other leaves place 0 with one of them every 4 minutes
        for (int start = 6; start <= 26; start += 4) {
            x.ride(start);
        }
        int[] boarded = {22, 10, 18, 14, 26, 6};
        for (int who = 0; who < boarded.length; who++) {
            c.due("of(" + who + ", 4)", x.of(who, 4), boarded[who]);
        }
    }

    private static void whoGoesTheOtherWayWaits() {
        c.part("terms, farther on its way");
        TwoCars x = new TwoCars();
        x.halt(2, true);
        x.halt(3, true);
        x.person(3, 2, 0);
        x.person(2, 3, 0);
        c.due("ride(0)", x.ride(0), 7);
        c.person(x, 0, 3, 3, 2, 0, 1, 3);
        c.person(x, 1, 3, 2, 3, 0, 3, 5);
        c.rode(x, 3, 2, 0, 80, 1, 2, 7);
    }

    private static void carPassesAPlaceThatIsNoHalt() {
        c.part("terms, a car at no halt");
        TwoCars x = new TwoCars();
        x.halt(1, true);
        x.person(4, 1, 0);
        c.due("ride(0)", x.ride(0), 5);
        c.person(x, 0, 3, 4, 1, 0, 0, 3);
        c.rode(x, 1, 1, 0, 80, 0, 1, 5);
        x.ride(5);
        c.rode(x, 0, 0, 0, 0, 0, 0, 4);
    }

    private static void carPassesAHaltWhereNobodyIs() {
        c.part("terms, a halt where nobody is");
        TwoCars x = new TwoCars();
        x.halt(1, true);
        x.halt(2, true);
        x.person(2, 4, 0);
        c.due("ride(0)", x.ride(0), 5);
        c.person(x, 0, 3, 2, 4, 0, 2, 5);
        c.rode(x, 1, 1, 0, 80, 2, 1, 5);
    }

    private static void pulls() {
        c.part("promise 10, pulls");
        TwoCars x = new TwoCars();
        x.height(1, 20);
        x.height(3, 20);
        x.set(2, 50);
        x.set(3, 7);
        x.person(0, 4, 0);
        x.person(0, 4, 0);
        x.person(4, 0, 0);
        x.ride(0);
        // heights 0 20 20 20 40: A 64, B 57; the steps pull 64*20-57*20, 0, 0, 140
        c.rode(x, 0, 0, 0, 140, 0, 3, 4);
        x.line(4);
        x.height(1, 0);
        x.height(2, 0);
        x.height(3, 0);
        x.ride(0);
        // heights 0 0 0 0 40: -50*40, 0, 0, 50*40: of equal ones the first
        c.rode(x, 0, 0, 0, 2000, 0, 0, 4);
        x.person(0, 4, 0);
        x.ride(4);
        // B goes up with one: A -50*40, then B 57*40 at the last step
        c.rode(x, 0, 0, 1, 2280, 3, 1, 4);
        x.set(2, 0);
        x.set(3, 0);
        x.ride(8);
        c.rode(x, 0, 0, 0, 0, 0, 0, 4);
    }

    private static void heavyAboveMotor() {
        c.part("promise 10, heavy");
        TwoCars x = new TwoCars();
        x.line(2);
        x.height(2, 999);
        x.height(1, 0);
        x.set(2, 500);
        x.set(4, 499499);
        x.ride(0);
        c.rode(x, 0, 0, 2, 499500, 0, 0, 2);
        x.set(4, 499500);
        x.ride(2);
        c.rode(x, 0, 0, 0, 499500, 0, 0, 2);
        x.line(2);
        x.height(2, 999);
        x.height(1, 0);
        x.set(1, 20);
        x.set(3, 500);
        x.set(4, 1000000);
        for (int i = 0; i < 20; i++) {
            x.person(0, 2, 0);
        }
        x.ride(0);
        c.rode(x, 0, 0, 1, 10500 * 999, 1, 20, 2);
    }

    private static void counts() {
        c.part("promise 8");
        TwoCars x = new TwoCars();
        x.person(0, 4, 2);
        x.person(0, 4, 900);
        x.person(4, 0, 0);
        c.counts(x, 4, 3, 0, 0, 3, 0, 0, 0, 0, 0);
        x.ride(5);
        c.counts(x, 4, 3, 4, 9, 1, 0, 0, 2, 1, 8);
        x.ride(950);
        c.counts(x, 4, 3, 0, 954, 0, 0, 0, 3, 2, 58);
        int[] wrong = {-1, 10, Integer.MIN_VALUE, Integer.MAX_VALUE};
        for (int what : wrong) {
            c.due("count(" + what + ")", x.count(what), NONE);
        }
    }

    private static void wrongPersons() {
        c.part("promise 9");
        TwoCars x = new TwoCars();
        c.noSuch(x, 0, 0);
        x.person(0, 4, 7);
        c.person(x, 0, 0, 0, 4, 7, NONE, NONE);
        c.noSuch(x, -1, 0);
        c.noSuch(x, 1, 0);
        c.noSuch(x, Integer.MAX_VALUE, 0);
        c.noSuch(x, Integer.MIN_VALUE, 0);
        c.noSuch(x, 0, -1);
        c.noSuch(x, 0, 6);
        c.noSuch(x, 0, Integer.MAX_VALUE);
        c.noSuch(x, 0, Integer.MIN_VALUE);
        x.ride(8);
        c.person(x, 0, 3, 0, 4, 7, 8, 12);
    }

    private static void wrongKinds() {
        c.part("promise 10, none");
        TwoCars x = new TwoCars();
        for (int what = -1; what <= 7; what++) {
            c.due("rode(" + what + ")", x.rode(what), NONE);
        }
        x.ride(2001);
        c.due("a refused ride is none", x.rode(6), NONE);
        x.ride(3);
        c.rode(x, 0, 0, 0, 0, 0, 0, 4);
        int[] wrong = {-1, 7, Integer.MIN_VALUE, Integer.MAX_VALUE};
        for (int what : wrong) {
            c.due("rode(" + what + ")", x.rode(what), NONE);
        }
    }

    private static void again() {
        c.part("promise 11");
        TwoCars x = new TwoCars();
        c.due("again() without people", x.again(), 0);
        x.height(4, 90);
        x.halt(2, true);
        x.set(0, 2);
        x.at(3);
        x.person(0, 2, 0);
        x.person(2, 0, 0);
        x.broken(3, 4);
        x.ride(1);
        c.counts(x, 4, 2, 4, 10, 0, 0, 0, 2, 1, 6);
        c.due("again()", x.again(), 2);
        c.counts(x, 4, 2, 0, 0, 2, 0, 0, 0, 0, 0);
        c.rode(x, NONE, NONE, NONE, NONE, NONE, NONE, NONE);
        c.person(x, 0, 0, 0, 2, 0, NONE, NONE);
        c.person(x, 1, 0, 2, 0, 0, NONE, NONE);
        for (int piece = 0; piece < 4; piece++) {
            c.due("bent", x.bent(piece), 0);
        }
        c.due("wires stay", x.broken(3, 1), 5);
        c.due("numbers stay", x.set(0, 2), 2);
        c.due("heights stay", x.height(3, 90) ? 1 : 0, 1);
        c.due("halts stay", x.person(4, 2, 0), 2);
        c.due("the list stays", x.clear(), 1);
        c.due("ride(0)", x.ride(0), 9);
        c.due("ride(9)", x.ride(9), 17);
        c.due("again()", x.again(), 3);
        c.due("A is at 0", x.count(2), 0);
    }
}
