/** Promises 16 to 18: broken, bent, off. */
public final class RopeTest {
    private static final int NONE = TwoCars.NONE;
    private static final Check c = new Check();

    public static void main(String[] args) {
        wires();
        bends();
        wornOut();
        lifeAtFirst();
        spans();
        spansAtTheEnd();
        wornComesFirst();
        c.end();
    }

    private static void wires() {
        c.part("promise 16");
        TwoCars x = new TwoCars();
        int[] wrongPieces = {-1, 4, Integer.MIN_VALUE, Integer.MAX_VALUE};
        for (int piece : wrongPieces) {
            c.due("broken(" + piece + ", 1)", x.broken(piece, 1), NONE);
        }
        int[] wrongWires = {0, -1, 101, Integer.MIN_VALUE, Integer.MAX_VALUE};
        for (int v : wrongWires) {
            c.due("broken(0, " + v + ")", x.broken(0, v), NONE);
        }
        for (int i = 1; i <= 9; i++) {
            c.due("broken(0, 100)", x.broken(0, 100), 100 * i);
        }
        c.due("broken(0, 99)", x.broken(0, 99), 999);
        c.due("broken(0, 2)", x.broken(0, 2), NONE);
        c.due("broken(0, 1)", x.broken(0, 1), 1000);
        c.due("broken(0, 1)", x.broken(0, 1), NONE);
        c.due("each piece by itself", x.broken(3, 100), 100);
    }

    private static void bends() {
        c.part("promise 17");
        TwoCars x = new TwoCars();
        x.line(6);
        for (int rides = 0; rides < 4; rides++) {
            for (int piece = 0; piece < 6; piece++) {
                c.due("bent(" + piece + ")", x.bent(piece), rides);
            }
            x.ride(10 * rides);
        }
        c.due("a refused ride bends nothing", x.ride(0), NONE);
        c.due("bent(5)", x.bent(5), 4);
        int[] wrong = {-1, 6, Integer.MIN_VALUE, Integer.MAX_VALUE};
        for (int piece : wrong) {
            c.due("bent(" + piece + ")", x.bent(piece), NONE);
        }
    }

    private static void wornOut() {
        c.part("promise 18, bent too often");
        TwoCars x = new TwoCars();
        x.set(5, 2);
        x.ride(0);
        x.ride(10);
        c.due("as often as LIFE", x.off(), 0);
        x.ride(20);
        c.due("more often", x.off(), 1);
        c.due("rides go on", x.ride(30), 34);
        x.set(5, 4);
        c.due("a longer LIFE", x.off(), 0);
        x.set(5, 3);
        c.due("a shorter one", x.off(), 1);
        x.again();
        c.due("behind again()", x.off(), 0);
    }

    private static void lifeAtFirst() {
        c.part("promise 18, 500 bends");
        TwoCars x = new TwoCars();
        x.line(2);
        for (int i = 0; i < 500; i++) {
            x.ride(2 * i);
        }
        c.due("bent(1)", x.bent(1), 500);
        c.due("off()", x.off(), 0);
        c.due("ride(1000)", x.ride(1000), 1002);
        c.due("off()", x.off(), 1);
    }

    private static void spans() {
        c.part("promise 18, wires");
        TwoCars x = new TwoCars();
        x.line(8);
        x.broken(2, 2);
        x.broken(5, 3);
        c.due("2 and 5 are four apart", x.off(), 0);
        x.broken(4, 1);
        c.due("2..4 has 3, 3..5 has 4", x.off(), 0);
        x.set(7, 4);
        c.due("the first with 4", x.off(), 103);
        x.set(7, 3);
        c.due("the first with 3", x.off(), 102);
        x.set(7, 2);
        c.due("0..2 has 2", x.off(), 100);
        x.set(6, 1);
        c.due("alone", x.off(), 102);
        x.set(7, 3);
        c.due("alone, 3", x.off(), 105);
        x.set(7, 4);
        c.due("alone, 4", x.off(), 0);
        x.set(6, 16);
        c.due("a span longer than the rope", x.off(), 100);
        x.set(7, 6);
        c.due("all six", x.off(), 100);
        x.set(7, 7);
        c.due("seven are none", x.off(), 0);
    }

    private static void spansAtTheEnd() {
        c.part("promise 18, the last piece");
        TwoCars x = new TwoCars();
        x.line(16);
        x.broken(15, 6);
        c.due("13..15", x.off(), 113);
        x.set(6, 1);
        c.due("15 alone", x.off(), 115);
        x.line(2);
        c.due("behind line()", x.off(), 0);
    }

    private static void wornComesFirst() {
        c.part("promise 18, both");
        TwoCars x = new TwoCars();
        x.broken(3, 6);
        c.due("wires", x.off(), 101);
        x.set(5, 1);
        x.ride(0);
        x.ride(4);
        c.due("bends come ahead of wires", x.off(), 1);
        x.again();
        c.due("wires stay behind again()", x.off(), 101);
    }
}
