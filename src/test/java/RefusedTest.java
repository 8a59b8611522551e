import java.util.ArrayList;
import java.util.Arrays;
import java.util.List;
import java.util.NoSuchElementException;

/**
 * "Refused calls answer NONE, or false, and change nothing": two lines are built by the same calls, one of
 * them is then given the call that is refused, and both must answer a long row of further calls alike.
 */
public final class RefusedTest {
    private static final int NONE = TwoCars.NONE;
    private static final int LOWEST = Integer.MIN_VALUE;
    private static final int HIGHEST = Integer.MAX_VALUE;
    private static final int THROWN = Integer.MIN_VALUE;
    private static final int[] HEIGHTS_AT_FIRST = {0, 10, 20, 30, 40};
    private static final int[] HEIGHTS_IN_USE = {3, 10, 20, 20, 41, 50, 999};
    private static final Check c = new Check();

    private interface Line {
        TwoCars build();
    }

    private interface Call {
        int on(TwoCars x);
    }

    public static void main(String[] args) {
        refusedEverywhere("new", TwoCars::new, HEIGHTS_AT_FIRST);
        refusedEverywhere("in use", RefusedTest::inUse, HEIGHTS_IN_USE);
        refusedEverywhere("full", RefusedTest::full, HEIGHTS_AT_FIRST);
        refusedInUse();
        refusedIfFull();
        asksChangeNothing();
        c.end();
    }

    private static TwoCars inUse() {
        TwoCars x = new TwoCars();
        x.line(6);
        for (int place : new int[] {6, 4, 0}) {
            x.height(place, HEIGHTS_IN_USE[place]);
        }
        x.height(3, 20);
        x.halt(2, true);
        x.halt(5, true);
        int[] numbers = {2, 1, 77, 13, 900, 1, 2, 9};
        for (int what = 0; what < numbers.length; what++) {
            x.set(what, numbers[what]);
        }
        x.person(0, 2, 0);
        x.person(2, 6, 3);
        x.person(0, 6, 1);
        x.person(6, 2, 40);
        x.broken(1, 4);
        x.broken(5, 8);
        x.at(30);
        x.at(4);
        x.at(12);
        x.ride(5);
        return x;
    }

    private static TwoCars full() {
        TwoCars x = new TwoCars();
        x.halt(2, true);
        for (int who = 0; who < 60; who++) {
            x.person(who % 3 * 2, (who + 1) % 3 * 2, who);
        }
        for (int i = 0; i < 8; i++) {
            x.at(i * 2000 / 7);
        }
        for (int i = 0; i < 10; i++) {
            x.broken(0, 100);
        }
        x.ride(1000);
        x.ride(2000);
        return x;
    }

    /** Calls that are refused whatever has gone ahead of them. */
    private static void refusedEverywhere(String state, Line line, int[] heights) {
        int n = heights.length - 1;
        for (int v : new int[] {LOWEST, -2, -1, 0, 1, 3, 15, 17, 18, HIGHEST}) {
            refused(state + " line(" + v + ")", line, heights, x -> x.line(v) ? 1 : 0, 0);
        }
        for (int place : new int[] {LOWEST, -1, n + 1, 17, HIGHEST}) {
            refused(state + " height(" + place + ", 500)", line, heights, x -> x.height(place, 500) ? 1 : 0, 0);
            refused(state + " halt(" + place + ", true)", line, heights, x -> x.halt(place, true) ? 1 : 0, 0);
            refused(state + " person(" + place + ", 0, 0)", line, heights, x -> x.person(place, 0, 0), NONE);
            refused(state + " person(0, " + place + ", 0)", line, heights, x -> x.person(0, place, 0), NONE);
        }
        for (int h : new int[] {LOWEST, -1, 1000, HIGHEST}) {
            refused(state + " height(0, " + h + ")", line, heights, x -> x.height(0, h) ? 1 : 0, 0);
            refused(state + " height(n, " + h + ")", line, heights, x -> x.height(n, h) ? 1 : 0, 0);
        }
        for (int place = 0; place <= n; place++) {
            refusedHeights(state, line, heights, place);
        }
        for (int place : new int[] {0, n}) {
            refused(state + " halt(" + place + ", false)", line, heights, x -> x.halt(place, false) ? 1 : 0, 0);
            refused(state + " halt(" + place + ", true)", line, heights, x -> x.halt(place, true) ? 1 : 0, 0);
        }
        refusedNumbers(state, line, heights);
        for (int minute : new int[] {LOWEST, -1, 1000, HIGHEST}) {
            refused(state + " person(0, n, " + minute + ")", line, heights, x -> x.person(0, n, minute), NONE);
        }
        refused(state + " person(0, 0, 0)", line, heights, x -> x.person(0, 0, 0), NONE);
        refused(state + " person(0, 1, 0)", line, heights, x -> x.person(0, 1, 0), NONE);
        refused(state + " person(1, n, 0)", line, heights, x -> x.person(1, n, 0), NONE);
        for (int t : new int[] {LOWEST, -1, 2001, HIGHEST}) {
            refused(state + " ride(" + t + ")", line, heights, x -> x.ride(t), NONE);
            refused(state + " at(" + t + ")", line, heights, x -> x.at(t), NONE);
        }
        for (int piece : new int[] {LOWEST, -1, n, HIGHEST}) {
            refused(state + " broken(" + piece + ", 1)", line, heights, x -> x.broken(piece, 1), NONE);
            refused(state + " bent(" + piece + ")", line, heights, x -> x.bent(piece), NONE);
        }
        for (int v : new int[] {LOWEST, -1, 0, 101, HIGHEST}) {
            refused(state + " broken(1, " + v + ")", line, heights, x -> x.broken(1, v), NONE);
        }
        for (int v : new int[] {LOWEST, -1, 256, HIGHEST}) {
            refused(state + " day(" + v + ")", line, heights, x -> x.day(v), NONE);
            refused(state + " best(" + v + ")", line, heights, x -> x.best(v), NONE);
            refused(state + " count(" + v + ")", line, heights, x -> x.count(v), NONE);
            refused(state + " rode(" + v + ")", line, heights, x -> x.rode(v), NONE);
            refused(state + " of(" + v + ", 0)", line, heights, x -> of(x, v, 0), THROWN);
            refused(state + " of(0, " + v + ")", line, heights, x -> of(x, 0, v), THROWN);
        }
    }

    private static void refusedHeights(String state, Line line, int[] heights, int place) {
        if (place > 0 && heights[place - 1] > 0) {
            int h = heights[place - 1] - 1;
            refused(state + " height(" + place + ", " + h + ")", line, heights, x -> x.height(place, h) ? 1 : 0, 0);
        }
        if (place < heights.length - 1) {
            int h = heights[place + 1] + 1;
            refused(state + " height(" + place + ", " + h + ")", line, heights, x -> x.height(place, h) ? 1 : 0, 0);
        }
    }

    private static void refusedNumbers(String state, Line line, int[] heights) {
        int[] most = {9, 20, 500, 500, 1000000, 10000, 16, 100};
        for (int i = 0; i < most.length; i++) {
            int what = i;
            for (int v : new int[] {LOWEST, -1, most[what] + 1, HIGHEST}) {
                refused(state + " set(" + what + ", " + v + ")", line, heights, x -> x.set(what, v), NONE);
            }
        }
        for (int what : new int[] {0, 1, 5, 6, 7}) {
            refused(state + " set(" + what + ", 0)", line, heights, x -> x.set(what, 0), NONE);
        }
        for (int what : new int[] {LOWEST, -1, 8, HIGHEST}) {
            refused(state + " set(" + what + ", 1)", line, heights, x -> x.set(what, 1), NONE);
        }
    }

    private static void refusedInUse() {
        Line line = RefusedTest::inUse;
        int[] heights = HEIGHTS_IN_USE;
        c.due("in use: the ride ended at", inUse().count(3), 18);
        refused("in use: halt(2, false), people are from and to it", line, heights, x -> x.halt(2, false) ? 1 : 0, 0);
        refused("in use: halt(2, true), people are from and to it", line, heights, x -> x.halt(2, true) ? 1 : 0, 0);
        refused("in use: person(2, 2, 0)", line, heights, x -> x.person(2, 2, 0), NONE);
        refused("in use: person(2, 3, 0)", line, heights, x -> x.person(2, 3, 0), NONE);
        for (int t : new int[] {0, 5, 17}) {
            refused("in use: ride(" + t + ")", line, heights, x -> x.ride(t), NONE);
        }
        refused("in use: day(8)", line, heights, x -> x.day(8), NONE);
        refused("in use: best(4)", line, heights, x -> x.best(4), NONE);
        refused("in use: of(4, 0)", line, heights, x -> of(x, 4, 0), THROWN);
        refused("in use: of(3, 6)", line, heights, x -> of(x, 3, 6), THROWN);
    }

    private static void refusedIfFull() {
        Line line = RefusedTest::full;
        int[] heights = HEIGHTS_AT_FIRST;
        c.due("full: PEOPLE", full().count(1), 60);
        c.due("full: the ride ended at", full().count(3), 2005);
        refused("full: person(0, 4, 0)", line, heights, x -> x.person(0, 4, 0), NONE);
        refused("full: halt(2, false)", line, heights, x -> x.halt(2, false) ? 1 : 0, 0);
        refused("full: at(0)", line, heights, x -> x.at(0), NONE);
        refused("full: at(2000)", line, heights, x -> x.at(2000), NONE);
        refused("full: broken(0, 1)", line, heights, x -> x.broken(0, 1), NONE);
        refused("full: broken(0, 100)", line, heights, x -> x.broken(0, 100), NONE);
        refused("full: ride(2000)", line, heights, x -> x.ride(2000), NONE);
        refused("full: ride(2005)", line, heights, x -> x.ride(2005), NONE);
        refused("full: best(9)", line, heights, x -> x.best(9), NONE);
        refused("full: of(60, 0)", line, heights, x -> of(x, 60, 0), THROWN);
    }

    private static void asksChangeNothing() {
        same("in use: days", RefusedTest::inUse, HEIGHTS_IN_USE, x -> x.day(7) + x.best(2) + x.day(0));
        same("full: days", RefusedTest::full, HEIGHTS_AT_FIRST, x -> x.day(255) + x.best(3) + x.day(128));
        same("in use: asks", RefusedTest::inUse, HEIGHTS_IN_USE,
            x -> x.off() + x.bent(0) + x.count(4) + x.rode(3) + x.of(0, 0));
    }

    private static void refused(String name, Line line, int[] heights, Call call, int answer) {
        c.part(name);
        TwoCars x = line.build();
        c.due("the answer", call.on(x), answer);
        compare(x, line.build(), heights);
    }

    private static void same(String name, Line line, int[] heights, Call call) {
        c.part(name);
        TwoCars x = line.build();
        call.on(x);
        compare(x, line.build(), heights);
    }

    private static void compare(TwoCars x, TwoCars y, int[] heights) {
        List<String> asked = new ArrayList<>();
        int[] got = looks(x, heights, asked);
        int[] want = looks(y, heights, new ArrayList<>());
        c.due("as many answers", got.length, want.length);
        int unlike = Arrays.mismatch(got, want);
        c.due("the first that is unlike: " + (unlike < 0 ? "none" : asked.get(unlike)), unlike, -1);
    }

    private static int of(TwoCars x, int person, int what) {
        try {
            return x.of(person, what);
        } catch (NoSuchElementException e) {
            return THROWN;
        }
    }

    /** Answers to some 350 calls that, together, tell all that a line holds. */
    private static int[] looks(TwoCars x, int[] heights, List<String> asked) {
        List<Integer> answers = new ArrayList<>();
        int n = heights.length - 1;
        lookAtPeople(x, asked, answers);
        lookAtRope(x, n, asked, answers);
        for (int bits = 0; bits <= 128; bits = Math.max(1, 2 * bits)) {
            note(asked, answers, "day(" + bits + ")", x.day(bits));
        }
        note(asked, answers, "day(7)", x.day(7));
        note(asked, answers, "best(1)", x.best(1));
        for (int place = 1; place <= n; place++) {
            note(asked, answers, "height over " + place, x.height(place - 1, heights[place] + 1) ? 1 : 0);
            note(asked, answers, "height of " + place, x.height(place - 1, heights[place]) ? 1 : 0);
            note(asked, answers, "height back", x.height(place - 1, heights[place - 1]) ? 1 : 0);
        }
        note(asked, answers, "height of 0", x.height(1, heights[0]) ? 1 : 0);
        note(asked, answers, "height back", x.height(1, heights[1]) ? 1 : 0);
        for (int place = 1; place < n; place++) {
            note(asked, answers, "person to " + place, x.person(0, place, 999));
        }
        note(asked, answers, "ride", x.ride(1000));
        note(asked, answers, "again()", x.again());
        for (int t = 0; t <= 50; t += 50) {
            note(asked, answers, "ride(" + t + ")", x.ride(t));
            for (int what = 0; what <= 6; what++) {
                note(asked, answers, "rode(" + what + ") later", x.rode(what));
            }
        }
        note(asked, answers, "count(7) later", x.count(7));
        for (int what = 0; what <= 7; what++) {
            note(asked, answers, "number " + what, x.set(what, 1));
        }
        note(asked, answers, "clear()", x.clear());
        return answers.stream().mapToInt(Integer::intValue).toArray();
    }

    private static void lookAtPeople(TwoCars x, List<String> asked, List<Integer> answers) {
        for (int what = 0; what <= 9; what++) {
            note(asked, answers, "count(" + what + ")", x.count(what));
        }
        for (int what = 0; what <= 6; what++) {
            note(asked, answers, "rode(" + what + ")", x.rode(what));
        }
        int last = Math.min(59, x.count(1));
        for (int who = 0; who <= last; who++) {
            for (int what = 0; what <= 5; what += who < 5 ? 1 : 4) {
                note(asked, answers, "of(" + who + ", " + what + ")", of(x, who, what));
            }
        }
    }

    private static void lookAtRope(TwoCars x, int n, List<String> asked, List<Integer> answers) {
        note(asked, answers, "off()", x.off());
        for (int piece = 0; piece < n; piece++) {
            note(asked, answers, "bent(" + piece + ")", x.bent(piece));
            note(asked, answers, "broken(" + piece + ")", x.broken(piece, 1));
        }
    }

    private static void note(List<String> asked, List<Integer> answers, String call, int answer) {
        asked.add(call);
        answers.add(answer);
    }
}
