/** Promises 1 to 4: a new object, begin, step and window, and what the kinds of bound mean. */
public final class PatternTest {
    private static final int REPEAT = Make.REPEAT;

    public static void main(String[] args) {
        newObject();
        begin();
        stepAnswers();
        stepRefusals();
        stepTypes();
        kindNone();
        kindGreater();
        kindLess();
        kindEqualToBound();
        kindSameAsFirst();
        repeats();
        cutsAreDifferentFinds();
        windowAnswers();
        windowEdges();
        Check.end();
    }

    private static void newObject() {
        SequencePatterns x = new SequencePatterns();
        Check.due("1: events()", x.events(), 0);
        Check.due("1: finds()", x.finds(), 0);
        Check.due("1: longest()", x.longest(), -4);
        Check.due("1: tightest()", x.tightest(), -4);
        Check.due("1: lastValues()", x.lastValues(), 0);
        for (int type = 0; type <= 3; type++) {
            Check.due("1: any type", x.event(type, 3 * type, 5), 1);
        }
        Check.due("1: repeat 0", x.finds(), 4);
        Check.due("1: repeat 0, longest()", x.longest(), 1);
        Check.due("1: window", x.window(40), 10);
        Check.due("1: one step stands already", x.step(4, 0, 0), 2);
        SequencePatterns other = new SequencePatterns();
        Check.due("1: objects share nothing, events()", other.events(), 0);
        Check.due("1: objects share nothing, window", other.window(1), 10);
        Check.due("1: objects share nothing, step", other.step(0, 0, 0), 2);
    }

    private static void begin() {
        SequencePatterns x = new SequencePatterns();
        x.event(0, 1, 0);
        x.begin();
        Check.due("2: finds()", x.finds(), 0);
        Check.due("2: event", x.event(0, 1, 0), 0);
        Check.due("2: endingAt(0)", x.endingAt(0), 0);
        Check.due("2: beginningAt(0)", x.beginningAt(0), 0);
        Check.due("2: using(0)", x.using(0), 0);
        Check.due("2: without(0)", x.without(0), 0);
        Check.due("2: longest()", x.longest(), -4);
        Check.due("2: tightest()", x.tightest(), -4);
        Check.due("2: lastValues()", x.lastValues(), 0);
        Check.due("2: the events stay", x.events(), 2);
        x.begin();
        Check.due("2: the next step is the first", x.step(0, 0, 0), 1);
        Check.due("2: finds() of the first step", x.finds(), 2);
        x.step(0, 0, 0);
        x.step(0, 0, 0);
        x.step(0, 0, 0);
        x.begin();
        Check.due("2: begin after 4 steps", x.step(4, 0, REPEAT), 1);
        Check.due("2: no step of the pattern before is left", x.finds(), 3);
        Check.due("2: the window stays", x.window(3), 10);
    }

    private static void stepAnswers() {
        SequencePatterns x = new SequencePatterns();
        Check.due("3: second", x.step(0, 0, 0), 2);
        Check.due("3: third", x.step(4, 9, 4), 3);
        Check.due("3: fourth", x.step(3, 5, REPEAT + 4), 4);
        Check.due("3: fifth", x.step(0, 0, 0), -2);
        Check.due("3: a wrong argument is told before FULL", x.step(5, 0, 0), -1);
        Check.due("3: a wrong bound is told before FULL", x.step(0, 10, 0), -1);
        Check.due("3: a wrong kind is told before FULL", x.step(0, 0, 5), -1);
        x.begin();
        for (int kind = 0; kind <= 4; kind++) {
            x.begin();
            Check.due("3: kind " + kind, x.step(0, 0, kind), 1);
            Check.due("3: kind " + kind + " repeated", x.step(0, 0, kind + REPEAT), 2);
        }
    }

    private static void stepRefusals() {
        SequencePatterns x = new SequencePatterns();
        int[] badTypes = {-1, 5, 100, Integer.MIN_VALUE, Integer.MAX_VALUE};
        for (int type : badTypes) {
            Check.due("3: type " + type, x.step(type, 0, 0), -1);
        }
        int[] badBounds = {-1, 10, Integer.MIN_VALUE, Integer.MAX_VALUE};
        for (int bound : badBounds) {
            Check.due("3: bound " + bound, x.step(0, bound, 0), -1);
        }
        int[] badKinds = {-1, -4, -8, 5, 6, 7, 13, 14, 15, 16, 17, 24, 256, Integer.MIN_VALUE, Integer.MAX_VALUE};
        for (int kind : badKinds) {
            Check.due("3: kindAndRepeat " + kind, x.step(0, 0, kind), -1);
        }
        Check.due("3: a refused step changes nothing", x.event(3, 3, 0), 1);
        Check.due("3: a refused step is not counted", x.step(4, 0, 0), 2);
        x.step(4, 0, 0);
        x.step(4, 0, 0);
        x.event(0, 0, 0);
        x.event(0, 0, 0);
        x.event(0, 0, 0);
        Check.due("3: before the fifth step", x.finds(), 1);
        Check.due("3: the fifth step", x.step(1, 0, 0), -2);
        Check.due("3: the fifth step changes nothing", x.finds(), 1);
    }

    private static void stepTypes() {
        for (int type = 0; type <= 4; type++) {
            SequencePatterns x = Make.pattern(type, 0);
            for (int e = 0; e <= 3; e++) {
                Check.due("3: type " + type + " and event of type " + e, x.event(e, 0, 0),
                        type == 4 || type == e ? 1 : 0);
            }
        }
    }

    private static void kindNone() {
        SequencePatterns x = Make.pattern(4, 0, 4, 0);
        Check.due("kind 0: first", x.event(0, 5, 0), 0);
        Check.due("kind 0: less", x.event(0, 4, 0), 1);
        Check.due("kind 0: same", x.event(0, 4, 0), 2);
        Check.due("kind 0: greater", x.event(0, 9, 0), 3);
    }

    private static void kindGreater() {
        SequencePatterns first = Make.pattern(4, 1);
        Check.due("kind 1: anything may be first", first.event(0, 0, 0), 1);
        Check.due("kind 1: anything may be first again", first.event(0, 0, 0), 1);
        SequencePatterns x = Make.pattern(4, 0, 4, 1);
        Check.due("kind 1: alone", x.event(0, 5, 0), 0);
        Check.due("kind 1: same", x.event(0, 5, 0), 0);
        Check.due("kind 1: less", x.event(0, 4, 0), 0);
        Check.due("kind 1: one more than two and two more than one", x.event(0, 6, 0), 3);
        SequencePatterns before = Make.pattern(4, 0, 4, 0, 4, 1);
        before.event(0, 9, 0);
        before.event(0, 1, 0);
        Check.due("kind 1: against the one just before, not the first", before.event(0, 2, 0), 1);
    }

    private static void kindLess() {
        SequencePatterns first = Make.pattern(4, 2);
        Check.due("kind 2: anything may be first", first.event(0, 9, 0), 1);
        Check.due("kind 2: anything may be first again", first.event(0, 9, 0), 1);
        SequencePatterns x = Make.pattern(4, 0, 4, 2);
        Check.due("kind 2: alone", x.event(0, 5, 0), 0);
        Check.due("kind 2: same", x.event(0, 5, 0), 0);
        Check.due("kind 2: greater", x.event(0, 6, 0), 0);
        Check.due("kind 2: less than three", x.event(0, 4, 0), 3);
        SequencePatterns before = Make.pattern(4, 0, 4, 0, 4, 2);
        before.event(0, 1, 0);
        before.event(0, 9, 0);
        Check.due("kind 2: against the one just before, not the first", before.event(0, 5, 0), 1);
    }

    private static void kindEqualToBound() {
        for (int bound = 0; bound <= 9; bound += 3) {
            SequencePatterns x = new SequencePatterns();
            x.begin();
            x.step(4, bound, 3);
            for (int value = 0; value <= 9; value++) {
                Check.due("kind 3: bound " + bound + ", value " + value, x.event(0, value, 0), value == bound ? 1 : 0);
            }
        }
        SequencePatterns repeated = new SequencePatterns();
        repeated.begin();
        repeated.step(4, 7, 3 + REPEAT);
        repeated.event(0, 7, 0);
        Check.due("kind 3: each event of a part meets the bound", repeated.event(0, 6, 0), 0);
        Check.due("kind 3: repeated", repeated.event(0, 7, 0), 2);
    }

    private static void kindSameAsFirst() {
        SequencePatterns first = Make.pattern(4, 4);
        Check.due("kind 4: the first one is the same as itself", first.event(0, 3, 0), 1);
        SequencePatterns x = Make.pattern(4, 0, 4, 0, 4, 4);
        x.event(0, 5, 0);
        x.event(0, 2, 0);
        Check.due("kind 4: the same as the one just before only", x.event(0, 2, 0), 0);
        Check.due("kind 4: the same as the very first", x.event(0, 5, 0), 2);
        SequencePatterns repeated = Make.pattern(4, 4 + REPEAT);
        repeated.event(0, 1, 0);
        Check.due("kind 4: repeated, another value", repeated.event(0, 2, 0), 1);
        Check.due("kind 4: repeated, the value of the first", repeated.event(0, 1, 0), 2);
    }

    private static void repeats() {
        SequencePatterns rising = Make.pattern(4, 1 + REPEAT);
        rising.event(0, 1, 0);
        rising.event(0, 3, 0);
        Check.due("repeat 1: a bound inside a part", rising.event(0, 2, 0), 2);
        Check.due("repeat 1: all rising lists", rising.event(0, 4, 0), 6);
        SequencePatterns second = Make.pattern(0, 0, 1, REPEAT);
        Check.due("repeat 1: a part has at least one event", second.event(0, 0, 0), 0);
        Check.due("repeat 1: one", second.event(1, 0, 0), 1);
        Check.due("repeat 1: one or two", second.event(1, 0, 0), 2);
        SequencePatterns single = Make.pattern(0, 0, 1, 0);
        single.event(0, 0, 0);
        single.event(1, 0, 0);
        Check.due("repeat 0: just one", single.event(1, 0, 0), 1);
    }

    private static void cutsAreDifferentFinds() {
        SequencePatterns x = Make.pattern(4, REPEAT, 4, REPEAT);
        x.event(0, 0, 0);
        Check.due("cuts: two events", x.event(0, 0, 0), 1);
        // {0,2}, {1,2} with one cut each, {0,1,2} with two
        Check.due("cuts: three events", x.event(0, 0, 0), 4);
    }

    private static void windowAnswers() {
        SequencePatterns x = new SequencePatterns();
        Check.due("4: before", x.window(0), 10);
        Check.due("4: least", x.window(40), 0);
        Check.due("4: greatest", x.window(7), 40);
        int[] bad = {-1, 41, 100, Integer.MIN_VALUE, Integer.MAX_VALUE};
        for (int w : bad) {
            Check.due("4: window(" + w + ")", x.window(w), -1);
        }
        Check.due("4: a refused window changes nothing", x.window(7), 7);
    }

    private static void windowEdges() {
        SequencePatterns x = Make.pattern(4, 0, 4, 0);
        x.event(0, 0, 5);
        x.event(0, 0, 0);
        x.event(0, 0, 4);
        Check.due("4: 10 less 5 and 10 less 9", x.event(0, 0, 1), 3);
        x.window(0);
        Check.due("4: window 0", x.finds(), 1);
        x.window(3);
        Check.due("4: window 3", x.finds(), 2);
        x.window(4);
        Check.due("4: window 4", x.finds(), 4);
        x.window(5);
        Check.due("4: window 5", x.finds(), 6);
        SequencePatterns whole = Make.pattern(0, 0, 1, 0, 2, 0);
        whole.event(0, 0, 0);
        whole.event(1, 0, 5);
        Check.due("4: the last less the first, at the window", whole.event(2, 0, 5), 1);
        whole.window(9);
        Check.due("4: the last less the first, beyond the window", whole.finds(), 0);
        SequencePatterns far = Make.pattern(0, 0, 1, 0);
        far.event(0, 0, 5);
        for (int n = 0; n < 8; n++) {
            far.event(2, 0, 5);
        }
        far.window(40);
        Check.due("4: beyond 40", far.event(1, 0, 5), 0);
    }
}
