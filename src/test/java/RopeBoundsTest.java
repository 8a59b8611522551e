/** Every boundary that promises 16 to 18 and the terms of the ROPE name. */
public final class RopeBoundsTest {
    private static final int NONE = TwoCars.NONE;
    private static final int LOWEST = Integer.MIN_VALUE;
    private static final int HIGHEST = Integer.MAX_VALUE;
    private static final Check c = new Check();

    public static void main(String[] args) {
        brokenPieces();
        brokenTooFew();
        brokenTooMany();
        brokenThousandByHundreds();
        brokenThousandExactly();
        brokenOfEachPiece();
        brokenStaysBehindAgain();
        brokenNoneBehindLine();
        bentPieces();
        bentWithout();
        bentUpAndBack();
        bentByRefusedRides();
        bentNoneBehindAgainAndLine();
        offAsOftenAsLife();
        offByTheLeastLife();
        offByTheFirstLife();
        offBelowLimit();
        offByTheLeastLimit();
        offByTheMostLimit();
        offBySpanAtFirst();
        offByTheLeastSpan();
        offByTheMostSpan();
        offBySpanLongerThanTheRope();
        offFirstPieceOfASpan();
        offAtTheLastPiece();
        offByBendsAheadOfWires();
        offByAllWires();
        c.end();
    }

    private static TwoCars laid(int n) {
        TwoCars x = new TwoCars();
        x.line(n);
        return x;
    }

    private static void brokenPieces() {
        c.part("promise 16, PIECES 0 .. n - 1");
        for (int n = 2; n <= 16; n += 2) {
            TwoCars x = laid(n);
            for (int piece : new int[] {-1, n, n + 1, LOWEST, HIGHEST}) {
                c.due("broken(" + piece + ", 1)", x.broken(piece, 1), NONE);
            }
            c.due("broken(0, 1)", x.broken(0, 1), 1);
            c.due("broken(n - 1, 1)", x.broken(n - 1, 1), 1);
        }
    }

    private static void brokenTooFew() {
        c.part("promise 16, WIRES from 1 on");
        TwoCars x = new TwoCars();
        for (int v : new int[] {0, -1, -100, LOWEST}) {
            c.due("broken(0, " + v + ")", x.broken(0, v), NONE);
        }
        c.due("broken(0, 1)", x.broken(0, 1), 1);
    }

    private static void brokenTooMany() {
        c.part("promise 16, WIRES up to 100");
        TwoCars x = new TwoCars();
        for (int v : new int[] {101, 1000, 1001, HIGHEST}) {
            c.due("broken(0, " + v + ")", x.broken(0, v), NONE);
        }
        c.due("broken(0, 100)", x.broken(0, 100), 100);
        c.due("broken(0, 99)", x.broken(0, 99), 199);
    }

    private static void brokenThousandByHundreds() {
        c.part("promise 16, more than 1000, by hundreds");
        TwoCars x = new TwoCars();
        for (int i = 1; i <= 10; i++) {
            c.due("broken(3, 100)", x.broken(3, 100), 100 * i);
        }
        c.due("broken(3, 1)", x.broken(3, 1), NONE);
        c.due("broken(3, 100)", x.broken(3, 100), NONE);
        c.due("broken(3, highest)", x.broken(3, HIGHEST), NONE);
        c.due("broken(2, 1)", x.broken(2, 1), 1);
    }

    private static void brokenThousandExactly() {
        c.part("promise 16, more than 1000, just so");
        TwoCars x = new TwoCars();
        for (int i = 1; i <= 9; i++) {
            x.broken(0, 100);
        }
        c.due("broken(0, 50)", x.broken(0, 50), 950);
        c.due("1051", x.broken(0, 100), NONE);
        c.due("1001", x.broken(0, 51), NONE);
        c.due("999", x.broken(0, 49), 999);
        c.due("1001", x.broken(0, 2), NONE);
        c.due("1000", x.broken(0, 1), 1000);
    }

    private static void brokenOfEachPiece() {
        c.part("promise 16, how many of that PIECE");
        TwoCars x = laid(16);
        for (int piece = 0; piece < 16; piece++) {
            c.due("broken", x.broken(piece, piece + 1), piece + 1);
        }
        for (int piece = 0; piece < 16; piece++) {
            c.due("once more", x.broken(piece, 1), piece + 2);
        }
    }

    private static void brokenStaysBehindAgain() {
        c.part("promise 11, WIRES stay");
        TwoCars x = new TwoCars();
        x.broken(0, 100);
        x.again();
        c.due("broken(0, 1)", x.broken(0, 1), 101);
        c.due("off()", x.off(), 100);
    }

    private static void brokenNoneBehindLine() {
        c.part("promise 2, ROPE without WIRES");
        TwoCars x = laid(16);
        x.broken(0, 100);
        x.broken(15, 100);
        c.no("line(1)", x.line(1));
        c.due("a refused line() leaves them", x.broken(15, 1), 101);
        x.line(2);
        x.line(16);
        c.due("off()", x.off(), 0);
        c.due("broken(0, 1)", x.broken(0, 1), 1);
        c.due("broken(15, 1)", x.broken(15, 1), 1);
    }

    private static void bentPieces() {
        c.part("promise 17, PIECES 0 .. n - 1");
        for (int n = 2; n <= 16; n += 2) {
            TwoCars x = laid(n);
            x.ride(0);
            for (int piece : new int[] {-1, n, n + 1, LOWEST, HIGHEST}) {
                c.due("bent(" + piece + ")", x.bent(piece), NONE);
            }
            c.due("bent(0)", x.bent(0), 1);
            c.due("bent(n - 1)", x.bent(n - 1), 1);
        }
    }

    private static void bentWithout() {
        c.part("promise 17, no RIDE");
        TwoCars x = new TwoCars();
        for (int piece = 0; piece < 4; piece++) {
            c.due("bent(" + piece + ")", x.bent(piece), 0);
        }
    }

    private static void bentUpAndBack() {
        c.part("promise 17, a step to p + 1, or back, BENDS PIECE p once");
        TwoCars x = laid(6);
        for (int rides = 1; rides <= 3; rides++) {
            x.ride(100 * rides);
            for (int piece = 0; piece < 6; piece++) {
                c.due("bent(" + piece + ")", x.bent(piece), rides);
            }
        }
    }

    private static void bentByRefusedRides() {
        c.part("promise 17, a refused RIDE, a DAY");
        TwoCars x = new TwoCars();
        x.ride(-1);
        x.ride(2001);
        c.due("bent(0)", x.bent(0), 0);
        x.at(0);
        x.day(1);
        x.best(1);
        c.due("bent(0)", x.bent(0), 0);
    }

    private static void bentNoneBehindAgainAndLine() {
        c.part("promises 2 and 11, BENDS are none");
        TwoCars x = laid(16);
        x.ride(0);
        c.due("bent(15)", x.bent(15), 1);
        x.again();
        c.due("again(): bent(0)", x.bent(0), 0);
        c.due("again(): bent(15)", x.bent(15), 0);
        x.ride(0);
        x.line(2);
        c.due("line(2): bent(1)", x.bent(1), 0);
        x.line(16);
        c.due("line(16): bent(15)", x.bent(15), 0);
    }

    private static void offAsOftenAsLife() {
        c.part("promise 18, BENT more than LIFE times");
        for (int n = 2; n <= 16; n += 2) {
            TwoCars x = laid(n);
            x.set(5, 3);
            for (int rides = 0; rides <= 3; rides++) {
                c.due(rides + " rides", x.off(), 0);
                x.ride(rides * n);
            }
            c.due("4 rides", x.off(), 1);
            x.set(5, 4);
            c.due("LIFE 4", x.off(), 0);
        }
    }

    private static void offByTheLeastLife() {
        c.part("promise 18, LIFE 1");
        TwoCars x = new TwoCars();
        x.set(5, 1);
        c.due("set(5, 0)", x.set(5, 0), NONE);
        c.due("no ride", x.off(), 0);
        x.ride(0);
        c.due("one ride", x.off(), 0);
        x.ride(4);
        c.due("two rides", x.off(), 1);
        x.again();
        c.due("behind again()", x.off(), 0);
    }

    private static void offByTheFirstLife() {
        c.part("promise 18, LIFE 500 at first");
        TwoCars x = laid(2);
        for (int ride = 0; ride < 500; ride++) {
            x.ride(2 * ride);
        }
        c.due("500 rides", x.off(), 0);
        x.ride(1000);
        c.due("501 rides", x.off(), 1);
    }

    private static void offBelowLimit() {
        c.part("promise 18, LIMIT or more, 6 at first");
        TwoCars x = new TwoCars();
        c.due("0", x.off(), 0);
        x.broken(0, 5);
        c.due("5", x.off(), 0);
        x.broken(0, 1);
        c.due("6", x.off(), 100);
        x.broken(0, 1);
        c.due("7", x.off(), 100);
        x.set(7, 8);
        c.due("LIMIT 8", x.off(), 0);
        x.set(7, 7);
        c.due("LIMIT 7", x.off(), 100);
    }

    private static void offByTheLeastLimit() {
        c.part("promise 18, LIMIT 1");
        TwoCars x = new TwoCars();
        x.set(7, 1);
        c.due("no wire", x.off(), 0);
        x.broken(0, 1);
        c.due("one wire", x.off(), 100);
    }

    private static void offByTheMostLimit() {
        c.part("promise 18, LIMIT 100");
        TwoCars x = new TwoCars();
        x.set(7, 100);
        x.broken(0, 33);
        x.broken(1, 33);
        x.broken(2, 33);
        c.due("99", x.off(), 0);
        x.broken(3, 1);
        c.due("67 in 1 .. 3", x.off(), 0);
        x.broken(2, 1);
        c.due("100", x.off(), 100);
    }

    private static void offBySpanAtFirst() {
        c.part("promise 18, at most SPAN PIECES, 3 at first");
        TwoCars near = new TwoCars();
        near.broken(0, 3);
        near.broken(2, 3);
        c.due("0 and 2", near.off(), 100);
        TwoCars far = new TwoCars();
        far.broken(0, 3);
        far.broken(3, 3);
        c.due("0 and 3", far.off(), 0);
        far.set(6, 4);
        c.due("0 and 3, SPAN 4", far.off(), 100);
    }

    private static void offByTheLeastSpan() {
        c.part("promise 18, SPAN 1");
        TwoCars x = new TwoCars();
        x.set(6, 1);
        x.broken(1, 5);
        x.broken(2, 5);
        c.due("5 and 5", x.off(), 0);
        x.broken(2, 1);
        c.due("5 and 6", x.off(), 102);
        x.broken(1, 1);
        c.due("6 and 6", x.off(), 101);
        x.broken(0, 5);
        c.due("5, 6 and 6", x.off(), 101);
    }

    private static void offByTheMostSpan() {
        c.part("promise 18, SPAN 16");
        TwoCars x = laid(16);
        x.broken(0, 3);
        x.broken(15, 3);
        x.set(6, 15);
        c.due("SPAN 15", x.off(), 0);
        x.set(6, 16);
        c.due("SPAN 16", x.off(), 100);
    }

    private static void offBySpanLongerThanTheRope() {
        c.part("promise 18, SPAN above n");
        for (int n = 2; n <= 14; n += 2) {
            TwoCars x = laid(n);
            x.set(6, 16);
            x.broken(n - 1, 5);
            c.due("5", x.off(), 0);
            x.broken(0, 1);
            c.due("6", x.off(), 100);
        }
    }

    private static void offFirstPieceOfASpan() {
        c.part("promise 18, the first PIECE with which a span begins");
        for (int piece = 0; piece < 16; piece++) {
            TwoCars x = laid(16);
            x.broken(piece, 6);
            c.due("SPAN 3, wires in " + piece, x.off(), 100 + Math.max(0, piece - 2));
            x.set(6, 1);
            c.due("SPAN 1, wires in " + piece, x.off(), 100 + piece);
        }
    }

    private static void offAtTheLastPiece() {
        c.part("promise 18, spans at the end of the ROPE");
        TwoCars x = laid(2);
        x.set(6, 1);
        x.broken(1, 6);
        c.due("n is 2", x.off(), 101);
        x.line(4);
        x.broken(3, 6);
        c.due("n is 4", x.off(), 103);
        x.line(16);
        x.broken(15, 5);
        c.due("5", x.off(), 0);
        x.broken(15, 1);
        c.due("n is 16", x.off(), 115);
    }

    private static void offByBendsAheadOfWires() {
        c.part("promise 18, else 100 and the first PIECE");
        TwoCars x = new TwoCars();
        x.set(5, 1);
        x.broken(3, 6);
        x.ride(0);
        c.due("BENT as often as LIFE", x.off(), 101);
        x.ride(4);
        c.due("more often", x.off(), 1);
    }

    private static void offByAllWires() {
        c.part("promise 18, all WIRES there may be");
        TwoCars x = laid(16);
        x.set(6, 16);
        x.set(7, 100);
        for (int piece = 0; piece < 16; piece++) {
            for (int i = 0; i < 10; i++) {
                x.broken(piece, 100);
            }
        }
        c.due("off()", x.off(), 100);
        c.due("broken(15, 1)", x.broken(15, 1), NONE);
        c.due("off()", x.off(), 100);
    }
}
