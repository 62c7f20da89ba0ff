/** Promises 8 to 15: what is asked of the finds. */
public final class QueryTest {
    public static void main(String[] args) {
        finds();
        endingAt();
        beginningAt();
        using();
        longest();
        tightest();
        lastValues();
        without();
        noSuchEvent();
        questionsChangeNothing();
        greatestNumbers();
        Check.end();
    }

    /**
     * The pattern is one or more of type 0, then one of type 1. The events are
     * 0: type 0, value 2, time 1; 1: type 0, value 4, time 3; 2: type 1, value 6, time 3;
     * 3: type 0, value 8, time 8; 4: type 1, value 3, time 10. The window is 10. The finds are
     * {0,2} {1,2} {0,1,2} and {0,4} {1,4} {3,4} {0,1,4} {0,3,4} {1,3,4} {0,1,3,4}.
     */
    private static SequencePatterns example() {
        SequencePatterns x = new SequencePatterns();
        x.begin();
        x.step(0, 0, 8);
        x.step(1, 0, 0);
        x.event(0, 2, 1);
        x.event(0, 4, 2);
        x.event(1, 6, 0);
        x.event(0, 8, 5);
        x.event(1, 3, 2);
        return x;
    }

    private static void finds() {
        SequencePatterns x = example();
        Check.due("8: finds()", x.finds(), 10);
        x.window(8);
        Check.due("8: finds() in a window of 8", x.finds(), 6);
        x.window(1);
        Check.due("8: finds() in a window of 1", x.finds(), 1);
        x.window(40);
        x.step(2, 0, 0);
        Check.due("8: finds() of a pattern that is not met", x.finds(), 0);
    }

    private static void endingAt() {
        SequencePatterns x = example();
        int[] due = {0, 0, 3, 0, 7};
        for (int e = 0; e < 5; e++) {
            Check.due("9: endingAt(" + e + ")", x.endingAt(e), due[e]);
        }
        x.window(8);
        Check.due("9: endingAt(2) in a window of 8", x.endingAt(2), 3);
        Check.due("9: endingAt(4) in a window of 8", x.endingAt(4), 3);
    }

    private static void beginningAt() {
        SequencePatterns x = example();
        int[] due = {6, 3, 0, 1, 0};
        for (int e = 0; e < 5; e++) {
            Check.due("10: beginningAt(" + e + ")", x.beginningAt(e), due[e]);
        }
        x.window(8);
        Check.due("10: beginningAt(0) in a window of 8", x.beginningAt(0), 2);
        Check.due("10: beginningAt(1) in a window of 8", x.beginningAt(1), 3);
    }

    private static void using() {
        SequencePatterns x = example();
        int[] due = {6, 6, 3, 4, 7};
        for (int e = 0; e < 5; e++) {
            Check.due("11: using(" + e + ")", x.using(e), due[e]);
        }
        x.window(8);
        Check.due("11: using(3) in a window of 8", x.using(3), 2);
    }

    private static void longest() {
        SequencePatterns x = example();
        Check.due("12: longest()", x.longest(), 4);
        x.window(8);
        Check.due("12: longest() in a window of 8", x.longest(), 3);
        x.window(1);
        Check.due("12: longest() in a window of 1", x.longest(), 2);
        x.step(3, 0, 0);
        Check.due("12: longest() without a find", x.longest(), -4);
        SequencePatterns earlier = new SequencePatterns();
        earlier.begin();
        earlier.step(0, 0, 9);
        earlier.event(0, 1, 0);
        earlier.event(0, 2, 0);
        earlier.event(0, 3, 0);
        earlier.event(0, 0, 0);
        Check.due("12: the longest need not end last", earlier.longest(), 3);
        earlier.event(1, 5, 0);
        earlier.step(1, 0, 8);
        Check.due("12: all rising ones and the other", earlier.longest(), 4);
    }

    private static void tightest() {
        SequencePatterns x = example();
        Check.due("13: tightest()", x.tightest(), 0);
        x.begin();
        x.step(0, 0, 0);
        x.step(0, 0, 0);
        Check.due("13: tightest() of two of type 0", x.tightest(), 2);
        x.step(1, 0, 0);
        Check.due("13: tightest() with type 1 behind", x.tightest(), 2);
        x.begin();
        x.step(1, 0, 0);
        x.step(1, 0, 0);
        Check.due("13: tightest() at 7", x.tightest(), 7);
        x.window(7);
        Check.due("13: tightest() at the window", x.tightest(), 7);
        x.window(6);
        Check.due("13: tightest() beyond the window", x.tightest(), -4);
        SequencePatterns one = new SequencePatterns();
        one.event(0, 0, 5);
        Check.due("13: tightest() of one event", one.tightest(), 0);
        SequencePatterns shorter = new SequencePatterns();
        shorter.begin();
        shorter.step(0, 0, 0);
        shorter.step(0, 0, 0);
        shorter.event(0, 0, 5);
        shorter.event(0, 0, 5);
        shorter.event(0, 0, 3);
        Check.due("13: the tightest need not begin first", shorter.tightest(), 3);
        shorter.restart();
        shorter.event(0, 0, 4);
        shorter.event(1, 0, 1);
        Check.due("13: no event that was taken away", shorter.tightest(), -4);
    }

    private static void lastValues() {
        SequencePatterns x = example();
        Check.due("14: lastValues()", x.lastValues(), 3 * 6 + 7 * 3);
        x.window(8);
        Check.due("14: lastValues() in a window of 8", x.lastValues(), 3 * 6 + 3 * 3);
        x.step(2, 0, 0);
        Check.due("14: lastValues() without a find", x.lastValues(), 0);
        Check.due("14: an event of value 0", x.event(2, 0, 0) > 0 ? x.lastValues() : -1, 0);
    }

    private static void without() {
        SequencePatterns x = example();
        int[] due = {4, 4, 7, 6, 3};
        for (int e = 0; e < 5; e++) {
            Check.due("15: without(" + e + ")", x.without(e), due[e]);
        }
        Check.due("15: the event is still there", x.finds(), 10);
        SequencePatterns times = new SequencePatterns();
        times.begin();
        times.step(0, 0, 0);
        times.step(0, 0, 0);
        times.window(8);
        times.event(0, 0, 0);
        times.event(1, 0, 5);
        times.event(0, 0, 4);
        Check.due("15: the times stay without the event between", times.without(1), 0);
        times.window(9);
        Check.due("15: the times stay, at the window", times.without(1), 1);
        SequencePatterns before = new SequencePatterns();
        before.begin();
        before.step(0, 0, 9);
        before.event(0, 1, 0);
        before.event(0, 5, 0);
        before.event(0, 3, 0);
        Check.due("15: just before is the one before in the list", before.without(1), 3);
    }

    private static void noSuchEvent() {
        SequencePatterns empty = new SequencePatterns();
        SequencePatterns x = example();
        SequencePatterns full = new SequencePatterns();
        for (int e = 0; e < 10; e++) {
            full.event(0, 0, 0);
        }
        int[] bad = {-1, -4, 10, 11, 40, Integer.MIN_VALUE, Integer.MAX_VALUE};
        for (int e : bad) {
            noEvent(empty, e);
            noEvent(x, e);
            noEvent(full, e);
        }
        noEvent(empty, 0);
        noEvent(x, 5);
        x.begin();
        noEvent(x, 5);
    }

    private static void noEvent(SequencePatterns x, int e) {
        Check.due("9: endingAt(" + e + ")", x.endingAt(e), -4);
        Check.due("10: beginningAt(" + e + ")", x.beginningAt(e), -4);
        Check.due("11: using(" + e + ")", x.using(e), -4);
        Check.due("15: without(" + e + ")", x.without(e), -4);
    }

    private static void questionsChangeNothing() {
        SequencePatterns x = example();
        for (int round = 0; round < 2; round++) {
            Check.due("again: without(0)", x.without(0), 4);
            Check.due("again: finds()", x.finds(), 10);
            Check.due("again: using(3)", x.using(3), 4);
            Check.due("again: longest()", x.longest(), 4);
            Check.due("again: endingAt(4)", x.endingAt(4), 7);
            Check.due("again: beginningAt(1)", x.beginningAt(1), 3);
            Check.due("again: tightest()", x.tightest(), 0);
            Check.due("again: lastValues()", x.lastValues(), 39);
            Check.due("again: events()", x.events(), 5);
        }
        Check.due("again: window", x.window(10), 10);
    }

    private static void greatestNumbers() {
        SequencePatterns x = new SequencePatterns();
        x.begin();
        for (int k = 0; k < 4; k++) {
            x.step(4, 0, 8);
        }
        for (int e = 0; e < 10; e++) {
            x.event(0, 9, 0);
        }
        // the sum, over n from 4 to 10, of (10 over n) lists with (n - 1 over 3) cuts each
        int all = 210 * 1 + 252 * 4 + 210 * 10 + 120 * 20 + 45 * 35 + 10 * 56 + 1 * 84;
        Check.due("8: the greatest number of finds", x.finds(), all);
        Check.due("14: the greatest sum of last values", x.lastValues(), 9 * all);
        Check.due("12: the greatest length", x.longest(), 10);
    }
}
