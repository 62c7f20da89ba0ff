/** The edges that promises 8 to 15 name: what is asked of the finds. */
public final class QueryEdgesTest {
    private static final int REPEAT = Make.REPEAT;

    public static void main(String[] args) {
        eventNumbers();
        noSuchEventWithoutAStep();
        findsOfNone();
        findsOfOne();
        findsOfTen();
        endingAtFirstAndLast();
        beginningAtFirstAndLast();
        endingAndBeginningOfOne();
        usingFirstMiddleAndLast();
        usingCountsAFindOnce();
        eventInNoFind();
        longestNone();
        longestOneToTen();
        longestInItsWindow();
        tightestNone();
        tightestZeroToForty();
        tightestIsNotOfNeighbours();
        lastValuesNone();
        lastValuesZeroAndGreatest();
        withoutTheOnlyEvent();
        withoutFirstAndLast();
        withoutLeavesTimes();
        withoutMakesAnotherFirst();
        withoutLeavesTheEvent();
        Check.end();
    }

    /** "NONE if there is no event e", with no event, one, .. ten and an eleventh that was refused. */
    private static void eventNumbers() {
        for (int count = 0; count <= 11; count++) {
            SequencePatterns x = Make.alike(new SequencePatterns(), count, 5, 1);
            int there = Math.min(count, 10);
            for (int e = 0; e < there; e++) {
                asked(count + " events", x, e, 1, there - 1);
            }
            for (int e = there; e <= 10; e++) {
                asked(count + " events", x, e, -4, -4);
            }
            for (int e : Make.NO_EVENTS) {
                asked(count + " events", x, e, -4, -4);
            }
        }
    }

    private static void asked(String why, SequencePatterns x, int e, int due, int dueWithout) {
        Check.due("9: " + why + ", endingAt(" + e + ")", x.endingAt(e), due);
        Check.due("10: " + why + ", beginningAt(" + e + ")", x.beginningAt(e), due);
        Check.due("11: " + why + ", using(" + e + ")", x.using(e), due);
        Check.due("15: " + why + ", without(" + e + ")", x.without(e), dueWithout);
    }

    private static void noSuchEventWithoutAStep() {
        int[] counts = {0, 1, 10};
        for (int count : counts) {
            SequencePatterns x = Make.alike(Make.steps(0, 0), count, 5, 1);
            for (int e = 0; e < count; e++) {
                asked("no step", x, e, 0, 0);
            }
            asked("no step", x, count, -4, -4);
            for (int e : Make.NO_EVENTS) {
                asked("no step", x, e, -4, -4);
            }
        }
    }

    private static void findsOfNone() {
        for (int steps = 0; steps <= 4; steps++) {
            Check.due("8: no event, " + steps + " steps", Make.steps(steps, 0).finds(), 0);
            Check.due("8: no event, " + steps + " repeated", Make.steps(steps, REPEAT).finds(), 0);
        }
    }

    private static void findsOfOne() {
        for (int steps = 0; steps <= 4; steps++) {
            for (int kind = 0; kind <= 4; kind++) {
                SequencePatterns x = Make.alike(Make.steps(steps, kind), 1, 0, 5);
                Check.due("8: one event, " + steps + " steps of kind " + kind, x.finds(), steps == 1 ? 1 : 0);
                SequencePatterns repeated = Make.alike(Make.steps(steps, kind + REPEAT), 1, 0, 5);
                Check.due("8: one event, " + steps + " repeated steps of kind " + kind,
                        repeated.finds(), steps == 1 ? 1 : 0);
            }
        }
    }

    private static void findsOfTen() {
        int[] once = {0, 10, 45, 120, 210};
        int[] repeated = {0, 1023, 4097, 7423, 7937};
        for (int steps = 0; steps <= 4; steps++) {
            Check.due("8: ten events, " + steps + " steps",
                    Make.alike(Make.steps(steps, 0), 10, 9, 0).finds(), once[steps]);
            Check.due("8: ten events, " + steps + " repeated steps",
                    Make.alike(Make.steps(steps, REPEAT), 10, 9, 0).finds(), repeated[steps]);
        }
    }

    private static void endingAtFirstAndLast() {
        SequencePatterns x = Make.alike(Make.steps(2, REPEAT), 10, 0, 0);
        // m events before the last one, cut in m ways: the sum of C(e, m) * m is e * 2^(e - 1).
        int[] due = {0, 1, 4, 12, 32, 80, 192, 448, 1024, 2304};
        for (int e = 0; e < 10; e++) {
            Check.due("9: endingAt(" + e + ") of ten", x.endingAt(e), due[e]);
        }
        x.window(0);
        x.restart();
        Make.alike(x, 10, 0, 1);
        for (int e = 0; e < 10; e++) {
            Check.due("9: endingAt(" + e + ") in the least window", x.endingAt(e), 0);
        }
    }

    private static void beginningAtFirstAndLast() {
        SequencePatterns x = Make.alike(Make.steps(2, REPEAT), 10, 0, 0);
        int[] due = {2304, 1024, 448, 192, 80, 32, 12, 4, 1, 0};
        for (int e = 0; e < 10; e++) {
            Check.due("10: beginningAt(" + e + ") of ten", x.beginningAt(e), due[e]);
        }
        x.window(0);
        x.restart();
        Make.alike(x, 10, 0, 1);
        for (int e = 0; e < 10; e++) {
            Check.due("10: beginningAt(" + e + ") in the least window", x.beginningAt(e), 0);
        }
    }

    /** A list of one event begins and ends with it. */
    private static void endingAndBeginningOfOne() {
        for (int e = 0; e < 10; e++) {
            SequencePatterns x = Make.pattern(1, REPEAT);
            for (int n = 0; n < 10; n++) {
                x.event(n == e ? 1 : 0, n, 5);
            }
            for (int n = 0; n < 10; n++) {
                asked("only event " + e + " is found", x, n, n == e ? 1 : 0, n == e ? 0 : 1);
            }
            Check.due("8: only event " + e + " is found", x.finds(), 1);
            Check.due("12: only event " + e + " is found", x.longest(), 1);
            Check.due("13: only event " + e + " is found", x.tightest(), 0);
            Check.due("14: only event " + e + " is found", x.lastValues(), e);
        }
    }

    private static void usingFirstMiddleAndLast() {
        SequencePatterns x = Make.pattern(0, 0, 1, 0, 2, 0);
        for (int type = 0; type <= 2; type++) {
            x.event(type, 0, 0);
            x.event(3, 0, 0);
        }
        for (int e = 0; e < 6; e++) {
            Check.due("11: using(" + e + ")", x.using(e), e % 2 == 0 ? 1 : 0);
        }
        SequencePatterns ten = Make.alike(Make.steps(1, REPEAT), 10, 0, 0);
        for (int e = 0; e < 10; e++) {
            Check.due("11: using(" + e + ") of ten", ten.using(e), 512);
        }
    }

    /** A find whose list has the event is counted once, and each cut is a find. */
    private static void usingCountsAFindOnce() {
        SequencePatterns x = Make.alike(Make.steps(1, REPEAT), 3, 0, 0);
        Check.due("11: {1} {0,1} {1,2} {0,1,2}", x.using(1), 4);
        SequencePatterns cuts = Make.alike(Make.steps(2, REPEAT), 3, 0, 0);
        Check.due("11: {0,1} {1,2} and {0,1,2} twice", cuts.using(1), 4);
    }

    /** An event that is there but in no find answers 0, not NONE. */
    private static void eventInNoFind() {
        SequencePatterns x = Make.pattern(0, 0);
        x.event(0, 0, 0);
        x.event(1, 0, 0);
        asked("event 1 is in no find", x, 1, 0, 1);
        x.begin();
        x.step(2, 0, 0);
        for (int e = 0; e < 2; e++) {
            asked("there is no find", x, e, 0, 0);
        }
    }

    /** "NONE if there is no find": no event, no step, or nothing that meets the pattern. */
    private static void longestNone() {
        for (int steps = 0; steps <= 4; steps++) {
            Check.due("12: no event, " + steps + " steps", Make.steps(steps, REPEAT).longest(), -4);
        }
        Check.due("12: ten events, no step", Make.alike(Make.steps(0, 0), 10, 0, 0).longest(), -4);
        Check.due("12: ten of another type", Make.alike(Make.pattern(1, REPEAT), 10, 0, 0).longest(), -4);
        SequencePatterns apart = Make.alike(Make.steps(2, REPEAT), 10, 0, 1);
        apart.window(0);
        Check.due("12: ten that are too far apart", apart.longest(), -4);
        apart.window(1);
        Check.due("12: ten of which two are near enough", apart.longest(), 2);
    }

    private static void longestOneToTen() {
        SequencePatterns x = Make.steps(1, REPEAT);
        for (int count = 1; count <= 10; count++) {
            x.event(0, 0, 0);
            Check.due("12: " + count + " events", x.longest(), count);
        }
        for (int steps = 1; steps <= 4; steps++) {
            Check.due("12: " + steps + " steps of one event",
                    Make.alike(Make.steps(steps, 0), 10, 0, 0).longest(), steps);
            Check.due("12: " + steps + " repeated steps",
                    Make.alike(Make.steps(steps, REPEAT), 10, 0, 0).longest(), 10);
        }
        SequencePatterns last = Make.pattern(0, 0, 1, REPEAT);
        last.event(0, 0, 0);
        last.event(1, 0, 0);
        last.event(1, 0, 0);
        last.event(0, 0, 0);
        last.event(1, 0, 0);
        // {0,1,2,4}; the finds that begin at event 3 are shorter.
        Check.due("12: of all finds, not of the newest", last.longest(), 4);
        SequencePatterns rising = Make.pattern(0, 0, 1, 1 + REPEAT);
        rising.event(0, 5, 0);
        rising.event(1, 1, 0);
        rising.event(1, 2, 0);
        rising.event(1, 3, 0);
        rising.event(1, 6, 0);
        // 1, 2, 3, 6 rise, but 1 can't follow 5: there is {0,4} alone.
        Check.due("12: what rises without a beginning is no find", rising.longest(), 2);
    }

    private static void longestInItsWindow() {
        SequencePatterns x = Make.alike(Make.steps(1, REPEAT), 10, 0, 4);
        for (int w = 0; w <= 40; w++) {
            x.window(w);
            Check.due("12: in a window of " + w, x.longest(), Math.min(10, 1 + w / 4));
        }
    }

    private static void tightestNone() {
        for (int steps = 0; steps <= 4; steps++) {
            Check.due("13: no event, " + steps + " steps", Make.steps(steps, REPEAT).tightest(), -4);
        }
        Check.due("13: ten events, no step", Make.alike(Make.steps(0, 0), 10, 0, 0).tightest(), -4);
        Check.due("13: ten of another type", Make.alike(Make.pattern(1, REPEAT), 10, 0, 0).tightest(), -4);
        SequencePatterns apart = Make.alike(Make.steps(2, REPEAT), 10, 0, 1);
        apart.window(0);
        Check.due("13: ten that are too far apart", apart.tightest(), -4);
        apart.window(1);
        Check.due("13: ten of which two are near enough", apart.tightest(), 1);
    }

    private static void tightestZeroToForty() {
        Check.due("13: one event", Make.alike(new SequencePatterns(), 1, 0, 5).tightest(), 0);
        Check.due("13: ten events, one at a time", Make.alike(new SequencePatterns(), 10, 0, 5).tightest(), 0);
        Check.due("13: ten events at one time", Make.alike(Make.steps(4, 0), 10, 0, 0).tightest(), 0);
        for (int gap = 0; gap <= 5; gap++) {
            for (int steps = 1; steps <= 4; steps++) {
                SequencePatterns x = Make.alike(Make.steps(steps, REPEAT), 10, 0, gap);
                x.window(40);
                Check.due("13: " + steps + " steps " + gap + " apart", x.tightest(), (steps - 1) * gap);
            }
        }
        SequencePatterns widest = Make.pattern(0, 0, 1, 0);
        widest.window(40);
        widest.event(0, 0, 0);
        for (int e = 0; e < 8; e++) {
            widest.event(e == 7 ? 1 : 2, 0, 5);
        }
        Check.due("13: the greatest of all", widest.tightest(), 40);
    }

    /** The first and the last event count, and the least of all finds, wherever it is. */
    private static void tightestIsNotOfNeighbours() {
        SequencePatterns x = Make.pattern(0, 0, 1, 0, 2, 0);
        x.event(0, 0, 0);
        x.event(1, 0, 1);
        x.event(2, 0, 5);
        Check.due("13: the last less the first", x.tightest(), 6);
        x.event(0, 0, 0);
        x.event(1, 0, 4);
        x.event(2, 0, 1);
        Check.due("13: a later find is tighter", x.tightest(), 5);
        x.event(0, 0, 5);
        x.event(1, 0, 5);
        Check.due("13: nothing ends later", x.tightest(), 5);
        x.event(2, 0, 0);
        Check.due("13: one as tight", x.tightest(), 5);
    }

    /** The sum over no find is 0, not NONE. */
    private static void lastValuesNone() {
        for (int steps = 0; steps <= 4; steps++) {
            Check.due("14: no event, " + steps + " steps", Make.steps(steps, REPEAT).lastValues(), 0);
        }
        Check.due("14: ten events, no step", Make.alike(Make.steps(0, 0), 10, 9, 0).lastValues(), 0);
        Check.due("14: ten of another type", Make.alike(Make.pattern(1, REPEAT), 10, 9, 0).lastValues(), 0);
    }

    private static void lastValuesZeroAndGreatest() {
        Check.due("14: ten of value 0", Make.alike(Make.steps(1, REPEAT), 10, 0, 0).lastValues(), 0);
        Check.due("14: one of value 9", Make.alike(new SequencePatterns(), 1, 9, 0).lastValues(), 9);
        int[] finds = {0, 1023, 4097, 7423, 7937};
        for (int steps = 0; steps <= 4; steps++) {
            Check.due("14: ten of value 9, " + steps + " steps",
                    Make.alike(Make.steps(steps, REPEAT), 10, 9, 0).lastValues(), 9 * finds[steps]);
        }
        SequencePatterns last = Make.values(Make.steps(2, 0), 9, 0);
        Check.due("14: the last value, not the first", last.lastValues(), 0);
        SequencePatterns first = Make.values(Make.steps(2, 0), 0, 9);
        Check.due("14: the last value alone", first.lastValues(), 9);
        Check.due("14: once for each cut", Make.values(Make.steps(2, REPEAT), 0, 0, 1).lastValues(), 4);
    }

    private static void withoutTheOnlyEvent() {
        SequencePatterns x = Make.alike(new SequencePatterns(), 1, 9, 5);
        Check.due("15: the only event", x.without(0), 0);
        Check.due("15: there is no second one", x.without(1), -4);
        Check.due("15: it is still there", x.finds(), 1);
    }

    private static void withoutFirstAndLast() {
        int[] nine = {0, 511, 1793, 2815, 2561};
        for (int steps = 0; steps <= 4; steps++) {
            SequencePatterns x = Make.alike(Make.steps(steps, REPEAT), 10, 0, 0);
            for (int e = 0; e < 10; e++) {
                Check.due("15: " + steps + " steps, without(" + e + ") of ten", x.without(e), nine[steps]);
            }
            Check.due("15: without(10) of ten", x.without(10), -4);
            Check.due("15: without(-1) of ten", x.without(-1), -4);
        }
    }

    /** "(the times of the other events stay as they are)": of the first, of one between and of the last. */
    private static void withoutLeavesTimes() {
        SequencePatterns x = Make.alike(Make.steps(2, 0), 4, 0, 5);
        x.window(5);
        Check.due("15: pairs of neighbours", x.finds(), 3);
        Check.due("15: the first is not there", x.without(0), 2);
        Check.due("15: the second is not there, its gap is", x.without(1), 1);
        Check.due("15: the third is not there, its gap is", x.without(2), 1);
        Check.due("15: the last is not there", x.without(3), 2);
        x.window(10);
        Check.due("15: two gaps are in the window", x.without(1), 2);
    }

    /** Where the first event of a list is away, the next one may be a first one, for which all goes. */
    private static void withoutMakesAnotherFirst() {
        SequencePatterns x = Make.values(Make.steps(2, 1), 9, 1, 2);
        Check.due("15: only 1 and 2 rise", x.finds(), 1);
        Check.due("15: without 9", x.without(0), 1);
        Check.due("15: without 1", x.without(1), 0);
        Check.due("15: without 2", x.without(2), 0);
        SequencePatterns same = Make.values(Make.pattern(4, 0, 4, 4 + REPEAT), 3, 5, 5, 3);
        Check.due("15: 3 and 3, 5 and 5", same.finds(), 2);
        Check.due("15: without the first 3", same.without(0), 1);
        Check.due("15: without the second 5", same.without(2), 1);
        SequencePatterns between = Make.values(Make.steps(3, 1), 1, 5, 3, 4);
        Check.due("15: 1, 3 and 4", between.finds(), 1);
        Check.due("15: without 5", between.without(1), 1);
        Check.due("15: without 3", between.without(2), 0);
    }

    private static void withoutLeavesTheEvent() {
        SequencePatterns x = Make.alike(Make.steps(2, 0), 10, 9, 0);
        for (int e = 0; e < 10; e++) {
            Check.due("15: without(" + e + ")", x.without(e), 36);
            Check.due("15: all events are there", x.events(), 10);
            Check.due("15: all finds are there", x.finds(), 45);
            Check.due("15: event " + e + " is in its finds", x.using(e), 9);
        }
    }
}
