/** The edges that promises 5 to 7 name: event, restart and events. */
public final class EventEdgesTest {
    private static final int REPEAT = Make.REPEAT;

    public static void main(String[] args) {
        eventArguments();
        eventsUntilFull();
        fullIsToldAfterBadArguments();
        fullEventsStay();
        eventAnswersFindsThatEndThere();
        eventWithoutAStep();
        eventWithFourSteps();
        restartAtEachNumberOfEvents();
        restartLeavesPatternAndWindow();
        restartLeavesNoTime();
        restartLeavesNoTypeAndNoValue();
        restartMakesRoomForTen();
        eventsAtEachNumber();
        Check.end();
    }

    /** The ends of each argument's range, in all combinations, with no event, one, nine and ten. */
    private static void eventArguments() {
        int[] counts = {0, 1, 9, 10};
        for (int count : counts) {
            for (int type : Make.both(Make.EVENT_TYPES, Make.NO_EVENT_TYPES)) {
                for (int value : Make.both(Make.VALUES, Make.NO_VALUES)) {
                    for (int gap : Make.both(Make.GAPS, Make.NO_GAPS)) {
                        eventArguments(count, type, value, gap);
                    }
                }
            }
        }
    }

    private static void eventArguments(int count, int type, int value, int gap) {
        SequencePatterns x = Make.alike(new SequencePatterns(), count, 5, 1);
        boolean good = Make.has(Make.EVENT_TYPES, type) && Make.has(Make.VALUES, value) && Make.has(Make.GAPS, gap);
        int due = !good ? -1 : count == 10 ? -2 : 1;
        String call = "event(" + type + ", " + value + ", " + gap + ")";
        Check.due("5: after " + count + " events, " + call, x.event(type, value, gap), due);
        Check.due("5: events() after " + call, x.events(), due == 1 ? count + 1 : count);
        Check.due("5: lastValues() after " + call, x.lastValues(), due == 1 ? 5 * count + value : 5 * count);
    }

    /** "10 events answers FULL", for every good event. */
    private static void eventsUntilFull() {
        for (int type = 0; type <= 3; type++) {
            for (int value = 0; value <= 9; value++) {
                SequencePatterns x = new SequencePatterns();
                for (int e = 0; e < 10; e++) {
                    Check.due("5: event " + e, x.event(type, value, e % 6), 1);
                }
                for (int gap = 0; gap <= 5; gap++) {
                    Check.due("5: an eleventh with gap " + gap, x.event(type, value, gap), -2);
                }
            }
        }
    }

    /** "Tested in this order": a wrong argument is told, even if there are ten events. */
    private static void fullIsToldAfterBadArguments() {
        SequencePatterns x = Make.alike(new SequencePatterns(), 10, 0, 0);
        Check.due("5: a wrong type of an eleventh", x.event(4, 0, 0), -1);
        Check.due("5: a wrong value of an eleventh", x.event(0, 10, 0), -1);
        Check.due("5: a wrong gap of an eleventh", x.event(0, 0, 6), -1);
        Check.due("5: all wrong of an eleventh", x.event(-1, -1, -1), -1);
        Check.due("5: nothing wrong of an eleventh", x.event(3, 9, 5), -2);
    }

    /** The eleventh event neither joins the others nor takes the place of one. */
    private static void fullEventsStay() {
        SequencePatterns x = Make.steps(2, 0);
        for (int e = 0; e < 10; e++) {
            x.event(0, e, 1);
        }
        x.event(3, 0, 5);
        Check.due("5: still ten", x.events(), 10);
        Check.due("5: still the pairs of ten", x.finds(), 45);
        // Each event e is the last one of e pairs.
        Check.due("5: the values stay", x.lastValues(), 1 + 4 + 9 + 16 + 25 + 36 + 49 + 64 + 81);
        Check.due("5: there is no event 10", x.endingAt(10), -4);
        x.window(9);
        Check.due("5: the times stay", x.finds(), 45);
        x.window(8);
        Check.due("5: the last time stays", x.finds(), 44);
        x.begin();
        x.step(0, 9, 3);
        Check.due("5: the last type and value stay", x.endingAt(9), 1);
    }

    /** "Otherwise the number of finds whose last event it is": none, one, and as many as there can be. */
    private static void eventAnswersFindsThatEndThere() {
        SequencePatterns x = Make.pattern(0, REPEAT);
        Check.due("5: none", x.event(1, 0, 0), 0);
        for (int e = 1; e <= 9; e++) {
            Check.due("5: all lists that end there, " + e, x.event(0, 0, 0), 1 << e - 1);
            Check.due("5: as endingAt tells", x.endingAt(e), 1 << e - 1);
        }
        SequencePatterns greatest = Make.alike(Make.steps(4, REPEAT), 9, 0, 0);
        Check.due("5: the most finds that an event can end", greatest.event(0, 0, 0), 84 * 64);
    }

    private static void eventWithoutAStep() {
        SequencePatterns x = Make.steps(0, 0);
        for (int e = 0; e < 10; e++) {
            Check.due("5: event " + e + " without a step", x.event(0, 0, 0), 0);
        }
        Check.due("5: an eleventh without a step", x.event(0, 0, 0), -2);
        Check.due("5: a wrong type without a step", x.event(4, 0, 0), -1);
        Check.due("5: ten without a step", x.events(), 10);
    }

    private static void eventWithFourSteps() {
        SequencePatterns x = Make.pattern(0, 0, 1, 0, 2, 0, 3, 0);
        for (int round = 1; round <= 2; round++) {
            for (int type = 0; type <= 2; type++) {
                Check.due("5: no last step yet", x.event(type, 0, 0), 0);
            }
            // Of two rounds, (0,1,2) is chosen in order: 000, 001, 011 and 111 by their round.
            Check.due("5: the last step's event", x.event(3, 0, 0), round == 1 ? 1 : 4);
        }
    }

    /** "All events are taken away": none, one, .. ten, and an eleventh that was refused. */
    private static void restartAtEachNumberOfEvents() {
        for (int count = 0; count <= 11; count++) {
            SequencePatterns x = Make.alike(new SequencePatterns(), count, 9, 5);
            x.restart();
            noEvent(count + " events taken away", x);
            x.restart();
            noEvent("restart twice", x);
            Check.due("6: an event after " + count, x.event(0, 9, 5), 1);
            Check.due("6: one event after " + count, x.events(), 1);
            Check.due("6: event 0 is there after " + count, x.using(0), 1);
            Check.due("6: event 1 is not there after " + count, x.using(1), -4);
        }
    }

    private static void noEvent(String why, SequencePatterns x) {
        String at = "6: " + why + ": ";
        Check.due(at + "events()", x.events(), 0);
        Check.due(at + "finds()", x.finds(), 0);
        Check.due(at + "longest()", x.longest(), -4);
        Check.due(at + "tightest()", x.tightest(), -4);
        Check.due(at + "lastValues()", x.lastValues(), 0);
        for (int e = -1; e <= 10; e++) {
            Check.due(at + "endingAt(" + e + ")", x.endingAt(e), -4);
            Check.due(at + "beginningAt(" + e + ")", x.beginningAt(e), -4);
            Check.due(at + "using(" + e + ")", x.using(e), -4);
            Check.due(at + "without(" + e + ")", x.without(e), -4);
        }
    }

    private static void restartLeavesPatternAndWindow() {
        for (int steps = 0; steps <= 4; steps++) {
            SequencePatterns x = Make.alike(Make.steps(steps, 1 + REPEAT), 10, 3, 5);
            x.window(40);
            x.restart();
            Check.due("6: the window stays", x.window(40), 40);
            Make.values(x, 1, 2, 3, 4);
            // All lists rise; of n events there are C(4, n), each cut in C(n - 1, steps - 1) ways.
            int[] due = {0, 15, 17, 7, 1};
            Check.due("6: the pattern of " + steps + " steps stays", x.finds(), due[steps]);
            Check.due("6: kind and repeat stay", x.event(0, 0, 0), steps == 1 ? 1 : 0);
            Check.due("6: the number of steps stays", x.step(4, 0, 0), steps == 4 ? -2 : steps + 1);
        }
    }

    /** After restart, event 0 has time 0 plus its gap again, and no event is before it. */
    private static void restartLeavesNoTime() {
        SequencePatterns x = Make.alike(Make.steps(2, 0), 10, 0, 5);
        x.restart();
        x.event(0, 0, 0);
        Check.due("6: 5 after the new event 0", x.event(0, 0, 5), 1);
        Check.due("6: tightest()", x.tightest(), 5);
        x.restart();
        x.event(0, 0, 5);
        Check.due("6: 0 after the new event 0", x.event(0, 0, 0), 1);
        Check.due("6: tightest() of one time", x.tightest(), 0);
    }

    private static void restartLeavesNoTypeAndNoValue() {
        SequencePatterns x = Make.alike(Make.pattern(0, REPEAT), 10, 9, 0);
        x.restart();
        for (int e = 0; e < 5; e++) {
            Check.due("6: type 1 where type 0 was", x.event(1, 9, 0), 0);
        }
        Check.due("6: no find of the events before", x.finds(), 0);
        x.begin();
        x.step(4, 0, 0);
        x.restart();
        Make.alike(x, 5, 1, 0);
        Check.due("6: value 1 where 9 was", x.lastValues(), 5);
    }

    private static void restartMakesRoomForTen() {
        SequencePatterns x = new SequencePatterns();
        for (int round = 0; round < 20; round++) {
            for (int e = 0; e < 10; e++) {
                Check.due("6: round " + round + ", event " + e, x.event(e % 4, e, e % 6), 1);
            }
            Check.due("6: round " + round + ", an eleventh", x.event(0, 0, 0), -2);
            x.restart();
        }
    }

    /** "The number of events": 0 to 10, and not more. */
    private static void eventsAtEachNumber() {
        SequencePatterns x = new SequencePatterns();
        for (int e = 0; e <= 12; e++) {
            Check.due("7: events() after " + e, x.events(), Math.min(e, 10));
            x.event(4, 0, 0);
            Check.due("7: events() after a wrong type", x.events(), Math.min(e, 10));
            x.event(0, -1, 0);
            Check.due("7: events() after a wrong value", x.events(), Math.min(e, 10));
            x.event(0, 0, 6);
            Check.due("7: events() after a wrong gap", x.events(), Math.min(e, 10));
            x.event(e % 4, e % 10, e % 6);
        }
        x.begin();
        Check.due("7: events() without a step", x.events(), 10);
        x.step(3, 9, 3);
        Check.due("7: events() without a find", x.events(), 10);
        x.window(0);
        Check.due("7: events() in the least window", x.events(), 10);
    }
}
