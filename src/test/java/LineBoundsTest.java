/** Every boundary that promises 1 to 6 and their terms name: the last value that is allowed, the first that is not. */
public final class LineBoundsTest {
    private static final int NONE = TwoCars.NONE;
    private static final int LOWEST = Integer.MIN_VALUE;
    private static final int HIGHEST = Integer.MAX_VALUE;
    private static final Check c = new Check();

    public static void main(String[] args) {
        newHasNoPeople();
        newIsBelowAtMinuteZero();
        newHasFivePlaces();
        newHasNothingBent();
        lineTooShort();
        lineTooLong();
        lineOdd();
        lineWrapsAround();
        lineHasOnePlaceMore();
        lineTwoHasOneBetween();
        heightOfAPlaceBelowAll();
        heightOfAPlaceAboveAll();
        heightBelowZero();
        heightAbove999();
        heightBelowThatUnder();
        heightAboveThatOver();
        heightOfAllAlike();
        haltOfAnEnd();
        haltOutside();
        haltPeopleAreFrom();
        haltPeopleAreTo();
        haltPeopleHaveComeTo();
        haltWithoutPeople();
        haltsAtFirst();
        setRun();
        setRoom();
        setEmpty();
        setPerson();
        setMotor();
        setLife();
        setSpan();
        setLimit();
        setOthers();
        setRoomOfEmptyCars();
        personOfMinutes();
        personFromOutside();
        personToOutside();
        personAtNoHalt();
        personFromAndToAlike();
        personSixty();
        c.end();
    }

    private static void newHasNoPeople() {
        c.part("promise 1, no PEOPLE");
        TwoCars x = new TwoCars();
        c.due("count(1)", x.count(1), 0);
        c.due("count(4)", x.count(4), 0);
        c.noSuch(x, 0, 0);
        c.due("the first has number 0", x.person(0, 4, 0), 0);
    }

    private static void newIsBelowAtMinuteZero() {
        c.part("promise 1, A is at 0, MINUTE 0");
        TwoCars x = new TwoCars();
        c.due("count(2)", x.count(2), 0);
        c.due("count(3)", x.count(3), 0);
        c.due("ride(-1)", x.ride(-1), NONE);
        c.due("ride(0)", x.ride(0), 4);
        c.due("count(2)", x.count(2), 4);
    }

    private static void newHasFivePlaces() {
        c.part("promise 1, PLACES 0 .. 4 at first");
        TwoCars x = new TwoCars();
        c.due("count(0)", x.count(0), 4);
        c.yes("height(4, 40)", x.height(4, 40));
        c.no("height(5, 50)", x.height(5, 50));
        c.due("bent(3)", x.bent(3), 0);
        c.due("bent(4)", x.bent(4), NONE);
    }

    private static void newHasNothingBent() {
        c.part("promise 1, ROPE and THE LIST of a new object");
        TwoCars x = new TwoCars();
        for (int piece = 0; piece < 4; piece++) {
            c.due("bent(" + piece + ")", x.bent(piece), 0);
            c.due("broken(" + piece + ", 1)", x.broken(piece, 1), 1);
        }
        c.due("clear()", x.clear(), 0);
        c.due("day(0)", x.day(0), 0);
        c.due("day(1)", x.day(1), NONE);
        c.due("rode(0)", x.rode(0), NONE);
    }

    private static void lineTooShort() {
        c.part("promise 2, n from 2 on");
        TwoCars x = new TwoCars();
        for (int n : new int[] {1, 0, -1, -2}) {
            c.no("line(" + n + ")", x.line(n));
            c.due("count(0)", x.count(0), 4);
        }
        c.yes("line(2)", x.line(2));
        c.due("count(0)", x.count(0), 2);
    }

    private static void lineTooLong() {
        c.part("promise 2, n up to 16");
        TwoCars x = new TwoCars();
        for (int n : new int[] {17, 18, 32}) {
            c.no("line(" + n + ")", x.line(n));
            c.due("count(0)", x.count(0), 4);
        }
        c.yes("line(16)", x.line(16));
        c.due("count(0)", x.count(0), 16);
    }

    private static void lineOdd() {
        c.part("promise 2, n even");
        for (int n = 2; n <= 16; n++) {
            TwoCars x = new TwoCars();
            c.due("line(" + n + ")", x.line(n) ? 1 : 0, n % 2 == 0 ? 1 : 0);
            c.due("count(0)", x.count(0), n % 2 == 0 ? n : 4);
        }
    }

    private static void lineWrapsAround() {
        c.part("promise 2, numbers far off");
        TwoCars x = new TwoCars();
        for (int n : new int[] {LOWEST, LOWEST + 1, LOWEST + 4, HIGHEST, HIGHEST - 1, 1 << 16, (1 << 16) + 4}) {
            c.no("line(" + n + ")", x.line(n));
            c.due("count(0)", x.count(0), 4);
        }
    }

    private static void lineHasOnePlaceMore() {
        c.part("promise 2, n PLACES more than one");
        for (int n = 2; n <= 16; n += 2) {
            TwoCars x = new TwoCars();
            x.line(n);
            c.no("place -1", x.height(-1, 0));
            c.yes("place 0", x.height(0, 0));
            c.yes("place n", x.height(n, 10 * n));
            c.no("place n + 1", x.height(n + 1, 10 * n + 10));
            c.due("ride(0)", x.ride(0), n);
            c.due("A at n", x.count(2), n);
        }
    }

    private static void lineTwoHasOneBetween() {
        c.part("promise 2, the shortest line and the longest");
        TwoCars x = new TwoCars();
        x.line(2);
        c.no("halt(0)", x.halt(0, true));
        c.yes("halt(1)", x.halt(1, true));
        c.no("halt(2)", x.halt(2, true));
        x.line(16);
        c.yes("halt(1)", x.halt(1, true));
        c.yes("halt(15)", x.halt(15, true));
        c.no("halt(16)", x.halt(16, true));
        x.line(2);
        c.due("a halt of the longer line", x.person(0, 15, 0), NONE);
        c.due("the halt that was told ahead", x.person(0, 1, 0), NONE);
    }

    private static void heightOfAPlaceBelowAll() {
        c.part("promise 3, PLACES from 0 on");
        TwoCars x = new TwoCars();
        c.no("height(-1, 0)", x.height(-1, 0));
        c.no("height(lowest, 0)", x.height(LOWEST, 0));
        c.yes("height(0, 0)", x.height(0, 0));
    }

    private static void heightOfAPlaceAboveAll() {
        c.part("promise 3, PLACES up to n");
        TwoCars x = new TwoCars();
        c.no("height(5, 50)", x.height(5, 50));
        c.no("height(16, 999)", x.height(16, 999));
        c.no("height(17, 999)", x.height(17, 999));
        c.no("height(highest, 999)", x.height(HIGHEST, 999));
        c.yes("height(4, 50)", x.height(4, 50));
        x.line(16);
        c.no("height(17, 170)", x.height(17, 170));
        c.yes("height(16, 170)", x.height(16, 170));
    }

    private static void heightBelowZero() {
        c.part("promise 3, HEIGHT from 0 on");
        TwoCars x = new TwoCars();
        c.no("height(0, -1)", x.height(0, -1));
        c.no("height(0, lowest)", x.height(0, LOWEST));
        c.yes("height(0, 0)", x.height(0, 0));
    }

    private static void heightAbove999() {
        c.part("promise 3, HEIGHT up to 999");
        TwoCars x = new TwoCars();
        c.no("height(4, 1000)", x.height(4, 1000));
        c.no("height(4, highest)", x.height(4, HIGHEST));
        c.yes("height(4, 999)", x.height(4, 999));
        c.no("height(3, 1000)", x.height(3, 1000));
        c.yes("height(3, 999)", x.height(3, 999));
    }

    private static void heightBelowThatUnder() {
        c.part("promise 3, below that of the PLACE under it");
        for (int place = 1; place <= 4; place++) {
            TwoCars x = new TwoCars();
            c.no("less at " + place, x.height(place, 10 * place - 11));
            c.yes("alike at " + place, x.height(place, 10 * place - 10));
        }
    }

    private static void heightAboveThatOver() {
        c.part("promise 3, above that of the PLACE over it");
        for (int place = 0; place < 4; place++) {
            TwoCars x = new TwoCars();
            c.no("more at " + place, x.height(place, 10 * place + 11));
            c.yes("alike at " + place, x.height(place, 10 * place + 10));
        }
    }

    private static void heightOfAllAlike() {
        c.part("promise 3, all alike");
        TwoCars x = new TwoCars();
        for (int place = 4; place >= 0; place--) {
            c.yes("999 at " + place, x.height(place, 999));
        }
        c.no("998 over 999", x.height(4, 998));
        x.person(0, 4, 0);
        x.ride(0);
        c.due("no pull on the flat", x.rode(3), 0);
        for (int place = 0; place <= 4; place++) {
            c.yes("0 at " + place, x.height(place, 0));
        }
        c.no("1 under 0", x.height(0, 1));
    }

    private static void haltOfAnEnd() {
        c.part("promise 4, a PLACE between the ends");
        for (int n = 2; n <= 16; n += 2) {
            TwoCars x = new TwoCars();
            x.line(n);
            c.no("halt(0, false)", x.halt(0, false));
            c.no("halt(0, true)", x.halt(0, true));
            c.yes("halt(1, true)", x.halt(1, true));
            c.yes("halt(n - 1, true)", x.halt(n - 1, true));
            c.no("halt(n, false)", x.halt(n, false));
            c.no("halt(n, true)", x.halt(n, true));
            c.due("the ends are still halts", x.person(0, n, 0), 0);
        }
    }

    private static void haltOutside() {
        c.part("promise 4, others");
        TwoCars x = new TwoCars();
        for (int place : new int[] {-1, 5, 16, 17, LOWEST, HIGHEST}) {
            c.no("halt(" + place + ", true)", x.halt(place, true));
            c.no("halt(" + place + ", false)", x.halt(place, false));
        }
        x.line(16);
        c.due("place 5 was not told", x.person(0, 5, 0), NONE);
    }

    private static void haltPeopleAreFrom() {
        c.part("promise 4, PEOPLE are from it");
        TwoCars x = new TwoCars();
        x.halt(1, true);
        x.halt(2, true);
        c.yes("nobody is from it", x.halt(1, true));
        x.person(1, 4, 0);
        c.no("halt(1, false)", x.halt(1, false));
        c.no("halt(1, true)", x.halt(1, true));
        c.due("it is a halt", x.person(1, 0, 0), 1);
        c.yes("the next may be none", x.halt(2, false));
    }

    private static void haltPeopleAreTo() {
        c.part("promise 4, PEOPLE are to it");
        TwoCars x = new TwoCars();
        x.halt(3, true);
        x.halt(2, true);
        c.yes("nobody is to it", x.halt(3, true));
        x.person(4, 3, 0);
        c.no("halt(3, false)", x.halt(3, false));
        c.no("halt(3, true)", x.halt(3, true));
        c.due("it is a halt", x.person(0, 3, 0), 1);
        c.yes("the next may be none", x.halt(2, false));
    }

    private static void haltPeopleHaveComeTo() {
        c.part("promise 4, PEOPLE who have come");
        TwoCars x = new TwoCars();
        x.halt(2, true);
        x.person(0, 2, 0);
        x.ride(0);
        c.due("it has come", x.of(0, 0), 3);
        c.no("halt(2, false)", x.halt(2, false));
        x.again();
        c.no("behind again()", x.halt(2, false));
        x.line(4);
        c.yes("behind line()", x.halt(2, false));
    }

    private static void haltWithoutPeople() {
        c.part("promise 4, a HALT, or not");
        TwoCars x = new TwoCars();
        c.yes("none is none", x.halt(2, false));
        c.yes("told", x.halt(2, true));
        c.yes("told twice", x.halt(2, true));
        c.yes("none again", x.halt(2, false));
        c.due("person(0, 2, 0)", x.person(0, 2, 0), NONE);
        c.yes("told again", x.halt(2, true));
        c.due("person(0, 2, 0)", x.person(0, 2, 0), 0);
    }

    private static void haltsAtFirst() {
        c.part("promise 4, at first no others");
        for (int n = 2; n <= 16; n += 2) {
            TwoCars x = new TwoCars();
            x.line(n);
            for (int place = 1; place < n; place++) {
                c.due("person to " + place, x.person(0, place, 0), NONE);
            }
            c.due("person to n", x.person(0, n, 0), 0);
        }
    }

    private static void setRun() {
        range("promise 5, RUN 1 .. 9, at first 1", 0, 1, 9, 1);
        TwoCars x = new TwoCars();
        x.line(16);
        x.set(0, 9);
        c.due("16 steps of 9", x.ride(0), 144);
        x.set(0, 10);
        c.due("16 steps of 9 once more", x.ride(144), 288);
        x.set(0, 1);
        c.due("16 steps of 1", x.ride(288), 304);
    }

    private static void setRoom() {
        range("promise 5, ROOM 1 .. 20, at first 4", 1, 1, 20, 4);
        roomHolds(1);
        roomHolds(2);
        roomHolds(19);
        roomHolds(20);
    }

    private static void roomHolds(int room) {
        TwoCars x = new TwoCars();
        x.set(1, room);
        for (int who = 0; who <= room; who++) {
            x.person(0, 4, 0);
        }
        x.ride(0);
        c.due("room for " + room, x.rode(5), room);
        c.due("one waits", x.count(4), 1);
    }

    private static void setEmpty() {
        range("promise 5, EMPTY 0 .. 500, at first 100", 2, 0, 500, 100);
        TwoCars x = new TwoCars();
        x.height(4, 999);
        x.ride(0);
        c.due("pull by 100", x.rode(3), 100 * (999 - 30) - 100 * 10);
        x.set(2, 500);
        x.ride(4);
        c.due("pull by 500", x.rode(3), 500 * (999 - 30) - 500 * 10);
        x.set(2, 0);
        x.ride(8);
        c.due("pull by 0", x.rode(3), 0);
    }

    private static void setPerson() {
        range("promise 5, PERSON 0 .. 500, at first 8", 3, 0, 500, 8);
        TwoCars x = new TwoCars();
        x.person(0, 4, 0);
        x.ride(0);
        c.due("pull by 8", x.rode(3), 80);
        x.again();
        x.set(3, 500);
        x.ride(0);
        c.due("pull by 500", x.rode(3), 5000);
        x.again();
        x.set(3, 0);
        x.ride(0);
        c.due("pull by 0", x.rode(3), 0);
    }

    private static void setMotor() {
        range("promise 5, MOTOR 0 .. 1000000, at first 2000", 4, 0, 1000000, 2000);
        TwoCars x = new TwoCars();
        x.set(2, 200);
        x.height(4, 50);
        x.ride(0);
        c.due("2000 is not above 2000", x.rode(2), 0);
        c.due("the pull", x.rode(3), 2000);
        x.line(4);
        x.set(2, 201);
        x.height(4, 50);
        x.ride(0);
        c.due("2010 is, at the first step and the last", x.rode(2), 2);
    }

    private static void setLife() {
        range("promise 5, LIFE 1 .. 10000, at first 500", 5, 1, 10000, 500);
    }

    private static void setSpan() {
        range("promise 5, SPAN 1 .. 16, at first 3", 6, 1, 16, 3);
    }

    private static void setLimit() {
        range("promise 5, LIMIT 1 .. 100, at first 6", 7, 1, 100, 6);
    }

    private static void range(String sentence, int what, int least, int most, int first) {
        c.part(sentence);
        TwoCars x = new TwoCars();
        c.due("below the least", x.set(what, least - 1), NONE);
        c.due("above the most", x.set(what, most + 1), NONE);
        c.due("lowest", x.set(what, LOWEST), NONE);
        c.due("highest", x.set(what, HIGHEST), NONE);
        c.due("the least, it was as at first", x.set(what, least), first);
        c.due("below the least", x.set(what, least - 1), NONE);
        c.due("the most", x.set(what, most), least);
        c.due("above the most", x.set(what, most + 1), NONE);
        c.due("next to the most", x.set(what, most - 1), most);
        c.due("next to the least", x.set(what, least + 1), most - 1);
        c.due("once more the same", x.set(what, least + 1), least + 1);
    }

    private static void setOthers() {
        c.part("promise 5, others");
        TwoCars x = new TwoCars();
        for (int what : new int[] {-1, 8, 9, LOWEST, HIGHEST}) {
            c.due("set(" + what + ", 1)", x.set(what, 1), NONE);
        }
        c.due("set(0, 1)", x.set(0, 1), 1);
        c.due("set(7, 1)", x.set(7, 1), 6);
    }

    private static void setRoomOfEmptyCars() {
        c.part("promise 5, ROOM below how many are in a car");
        TwoCars x = new TwoCars();
        for (int who = 0; who < 4; who++) {
            x.person(0, 4, 0);
            x.person(4, 0, 0);
        }
        c.due("nobody has boarded", x.set(1, 1), 4);
        c.due("back", x.set(1, 4), 1);
        x.ride(0);
        c.due("eight have come", x.count(7), 8);
        c.due("in A", x.count(5), 0);
        c.due("in B", x.count(6), 0);
        c.due("the cars are empty again", x.set(1, 1), 4);
        c.due("0 is never room", x.set(1, 0), NONE);
    }

    private static void personOfMinutes() {
        c.part("promise 6, MINUTE 0 .. 999");
        TwoCars x = new TwoCars();
        for (int minute : new int[] {-1, 1000, LOWEST, HIGHEST}) {
            c.due("person(0, 4, " + minute + ")", x.person(0, 4, minute), NONE);
        }
        c.due("count(1)", x.count(1), 0);
        c.due("person(0, 4, 0)", x.person(0, 4, 0), 0);
        c.due("person(0, 4, 999)", x.person(0, 4, 999), 1);
        c.due("of(0, 3)", x.of(0, 3), 0);
        c.due("of(1, 3)", x.of(1, 3), 999);
    }

    private static void personFromOutside() {
        c.part("promise 6, from a PLACE");
        TwoCars x = new TwoCars();
        for (int from : new int[] {-1, 5, 16, 17, LOWEST, HIGHEST}) {
            c.due("person(" + from + ", 4, 0)", x.person(from, 4, 0), NONE);
        }
        c.due("person(0, 4, 0)", x.person(0, 4, 0), 0);
        c.due("person(4, 0, 0)", x.person(4, 0, 0), 1);
    }

    private static void personToOutside() {
        c.part("promise 6, to a PLACE");
        TwoCars x = new TwoCars();
        for (int to : new int[] {-1, 5, 16, 17, LOWEST, HIGHEST}) {
            c.due("person(0, " + to + ", 0)", x.person(0, to, 0), NONE);
        }
        x.line(16);
        c.due("person(0, 16, 0)", x.person(0, 16, 0), 0);
        c.due("person(0, 17, 0)", x.person(0, 17, 0), NONE);
    }

    private static void personAtNoHalt() {
        c.part("promise 6, from a HALT, to another one");
        TwoCars x = new TwoCars();
        x.halt(2, true);
        for (int place = 1; place <= 3; place += 2) {
            c.due("from " + place, x.person(place, 2, 0), NONE);
            c.due("to " + place, x.person(2, place, 0), NONE);
        }
        c.due("from 2", x.person(2, 0, 0), 0);
        c.due("to 2", x.person(0, 2, 0), 1);
    }

    private static void personFromAndToAlike() {
        c.part("promise 6, from and to alike");
        TwoCars x = new TwoCars();
        x.halt(2, true);
        for (int place = 0; place <= 4; place++) {
            c.due("person(" + place + ", " + place + ", 0)", x.person(place, place, 0), NONE);
        }
        c.due("count(1)", x.count(1), 0);
    }

    private static void personSixty() {
        c.part("promise 6, 60");
        TwoCars x = new TwoCars();
        for (int who = 0; who < 60; who++) {
            c.due("person", x.person(who % 2 * 4, 4 - who % 2 * 4, who), who);
        }
        c.due("the 61st", x.person(0, 4, 0), NONE);
        c.due("count(1)", x.count(1), 60);
        c.noSuch(x, 60, 0);
        x.ride(100);
        c.due("eight have come", x.count(7), 8);
        c.due("they are PEOPLE still", x.person(0, 4, 0), NONE);
        x.again();
        c.due("behind again()", x.person(0, 4, 0), NONE);
        x.line(4);
        c.due("behind line()", x.person(0, 4, 0), 0);
    }
}
