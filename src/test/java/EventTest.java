/** Promises 5 to 7: event, restart and events. */
public final class EventTest {
    public static void main(String[] args) {
        eventAnswers();
        eventRefusals();
        eventFull();
        restart();
        events();
        Check.end();
    }

    private static void eventAnswers() {
        SequencePatterns x = new SequencePatterns();
        x.begin();
        x.step(0, 0, 8);
        x.step(1, 0, 0);
        Check.due("5: no find yet", x.event(0, 0, 0), 0);
        Check.due("5: one", x.event(1, 0, 1), 1);
        Check.due("5: only finds that end here", x.event(2, 0, 1), 0);
        Check.due("5: again none", x.event(0, 9, 5), 0);
        Check.due("5: three lists", x.event(1, 9, 3), 3);
        Check.due("5: the first event is out of the window", x.event(1, 9, 1), 1);
        Check.due("5: all", x.finds(), 5);
    }

    private static void eventRefusals() {
        SequencePatterns x = new SequencePatterns();
        int[] badTypes = {-1, 4, 5, Integer.MIN_VALUE, Integer.MAX_VALUE};
        for (int type : badTypes) {
            Check.due("5: type " + type, x.event(type, 0, 0), -1);
        }
        int[] badValues = {-1, 10, Integer.MIN_VALUE, Integer.MAX_VALUE};
        for (int value : badValues) {
            Check.due("5: value " + value, x.event(0, value, 0), -1);
        }
        int[] badGaps = {-1, 6, Integer.MIN_VALUE, Integer.MAX_VALUE};
        for (int gap : badGaps) {
            Check.due("5: gap " + gap, x.event(0, 0, gap), -1);
        }
        Check.due("5: a refused event is not there", x.events(), 0);
        Check.due("5: the least of each", x.event(0, 0, 0), 1);
        Check.due("5: the greatest of each", x.event(3, 9, 5), 1);
        Check.due("5: a wrong gap between two events", x.event(0, 0, 6), -1);
        x.step(4, 0, 0);
        Check.due("5: a refused gap moves no time", x.tightest(), 5);
    }

    private static void eventFull() {
        SequencePatterns x = new SequencePatterns();
        for (int e = 0; e < 10; e++) {
            Check.due("5: event " + e, x.event(0, 9, 1), 1);
        }
        Check.due("5: the eleventh", x.event(0, 0, 0), -2);
        Check.due("5: a wrong type is told before FULL", x.event(4, 0, 0), -1);
        Check.due("5: a wrong value is told before FULL", x.event(0, 10, 0), -1);
        Check.due("5: a wrong gap is told before FULL", x.event(0, 0, -1), -1);
        Check.due("5: the eleventh changes nothing, events()", x.events(), 10);
        Check.due("5: the eleventh changes nothing, lastValues()", x.lastValues(), 90);
        x.begin();
        Check.due("5: FULL without a pattern", x.event(0, 0, 0), -2);
    }

    private static void restart() {
        SequencePatterns x = new SequencePatterns();
        x.restart();
        Check.due("6: nothing to take away", x.events(), 0);
        x.step(4, 0, 1);
        x.window(3);
        for (int e = 0; e < 10; e++) {
            x.event(0, e, 5);
        }
        x.restart();
        Check.due("6: events()", x.events(), 0);
        Check.due("6: finds()", x.finds(), 0);
        Check.due("6: endingAt(0)", x.endingAt(0), -4);
        Check.due("6: beginningAt(0)", x.beginningAt(0), -4);
        Check.due("6: using(0)", x.using(0), -4);
        Check.due("6: without(0)", x.without(0), -4);
        Check.due("6: longest()", x.longest(), -4);
        Check.due("6: tightest()", x.tightest(), -4);
        Check.due("6: lastValues()", x.lastValues(), 0);
        Check.due("6: no event before the first", x.event(0, 9, 5), 0);
        Check.due("6: times begin anew and the window stays", x.event(0, 9, 4), 0);
        Check.due("6: the pattern stays", x.event(1, 9, 0), 0);
        Check.due("6: kind 1 stays", x.finds(), 0);
        x.begin();
        x.step(4, 0, 0);
        x.step(4, 0, 0);
        Check.due("6: only the new events", x.finds(), 1);
        Check.due("6: the window is told", x.window(10), 3);
        Check.due("6: all new events", x.finds(), 3);
    }

    private static void events() {
        SequencePatterns x = new SequencePatterns();
        for (int e = 0; e < 10; e++) {
            Check.due("7: events()", x.events(), e);
            x.event(e % 4, e, e % 6);
        }
        Check.due("7: events() when full", x.events(), 10);
        x.event(0, 0, 0);
        Check.due("7: events() after FULL", x.events(), 10);
        x.begin();
        Check.due("7: events() without a pattern", x.events(), 10);
        x.restart();
        Check.due("7: events() after restart", x.events(), 0);
        x.event(0, 0, 0);
        Check.due("7: events() after one more", x.events(), 1);
    }
}
