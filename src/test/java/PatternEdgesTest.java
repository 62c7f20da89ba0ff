/** The edges that promises 1 to 4 name: a new object, begin, step and window. */
public final class PatternEdgesTest {
    private static final int REPEAT = Make.REPEAT;

    public static void main(String[] args) {
        newHasNoEvent();
        newPatternIsAnyType();
        newPatternHasNoBound();
        newPatternTakesOneEvent();
        newPatternHasOneStep();
        newWindowIsTen();
        newObjectsShareNothing();
        beginAtEachNumberOfSteps();
        noFindWithoutAStep();
        beginLeavesEventsAndWindow();
        beginLeavesNothingOfTheSteps();
        stepArguments();
        stepsUntilFull();
        fullPatternStays();
        stepWithEvents();
        everyWindow();
        windowArguments();
        windowActsAtOnce();
        Check.end();
    }

    /** "No event". */
    private static void newHasNoEvent() {
        Check.due("1: events()", new SequencePatterns().events(), 0);
        Check.due("1: finds()", new SequencePatterns().finds(), 0);
        Check.due("1: longest()", new SequencePatterns().longest(), -4);
        Check.due("1: tightest()", new SequencePatterns().tightest(), -4);
        Check.due("1: lastValues()", new SequencePatterns().lastValues(), 0);
        Check.due("1: endingAt(0)", new SequencePatterns().endingAt(0), -4);
        Check.due("1: beginningAt(0)", new SequencePatterns().beginningAt(0), -4);
        Check.due("1: using(0)", new SequencePatterns().using(0), -4);
        Check.due("1: without(0)", new SequencePatterns().without(0), -4);
    }

    /** "the one step of any type". */
    private static void newPatternIsAnyType() {
        for (int type = 0; type <= 3; type++) {
            Check.due("1: an event of type " + type, new SequencePatterns().event(type, 0, 0), 1);
        }
    }

    /** "no bound". */
    private static void newPatternHasNoBound() {
        SequencePatterns down = new SequencePatterns();
        SequencePatterns up = new SequencePatterns();
        for (int value = 0; value <= 9; value++) {
            Check.due("1: rising values", up.event(0, value, 0), 1);
            Check.due("1: falling values", down.event(0, 9 - value, 0), 1);
        }
        Check.due("1: the sum of all values", up.lastValues(), 45);
    }

    /** "repeat 0". */
    private static void newPatternTakesOneEvent() {
        SequencePatterns x = Make.alike(new SequencePatterns(), 10, 0, 0);
        Check.due("1: finds() of ten", x.finds(), 10);
        Check.due("1: longest() of ten", x.longest(), 1);
    }

    private static void newPatternHasOneStep() {
        SequencePatterns x = new SequencePatterns();
        Check.due("1: the second step", x.step(4, 0, 0), 2);
        Check.due("1: the third step", x.step(4, 0, 0), 3);
        Check.due("1: the fourth step", x.step(4, 0, 0), 4);
        Check.due("1: no fifth step", x.step(4, 0, 0), -2);
    }

    /** "the window is 10". */
    private static void newWindowIsTen() {
        Check.due("1: the window before", new SequencePatterns().window(0), 10);
        SequencePatterns x = new SequencePatterns();
        x.step(4, 0, 0);
        x.event(0, 0, 0);
        x.event(1, 0, 5);
        Check.due("1: 10 apart", x.event(2, 0, 5), 2);
        Check.due("1: 11 apart", x.event(3, 0, 1), 2);
    }

    private static void newObjectsShareNothing() {
        SequencePatterns one = Make.alike(Make.steps(4, REPEAT), 10, 9, 5);
        one.window(40);
        SequencePatterns other = new SequencePatterns();
        Check.due("1: the other has no event", other.events(), 0);
        other.event(3, 0, 0);
        Check.due("1: the other has its own pattern", other.finds(), 1);
        Check.due("1: the other has its own window", other.window(1), 10);
        Check.due("1: the one keeps its events", one.events(), 10);
        Check.due("1: the one keeps its pattern", one.step(0, 0, 0), -2);
        Check.due("1: the one keeps its window", one.window(40), 40);
    }

    /** "the next step becomes its first one", after no step, one, .. four and a fifth that was refused. */
    private static void beginAtEachNumberOfSteps() {
        for (int steps = 0; steps <= 5; steps++) {
            SequencePatterns x = Make.steps(steps, 0);
            x.begin();
            Check.due("2: the next step after " + steps, x.step(4, 0, 0), 1);
            Check.due("2: the second one after " + steps, x.step(4, 0, 0), 2);
            Check.due("2: the third one after " + steps, x.step(4, 0, 0), 3);
            Check.due("2: the fourth one after " + steps, x.step(4, 0, 0), 4);
            Check.due("2: the fifth one after " + steps, x.step(4, 0, 0), -2);
        }
        SequencePatterns twice = new SequencePatterns();
        twice.begin();
        twice.begin();
        Check.due("2: begin twice", twice.step(4, 0, 0), 1);
        for (int round = 0; round < 100; round++) {
            twice.begin();
        }
        Check.due("2: begin a hundred times", twice.step(4, 0, 0), 1);
    }

    /** "As long as it has no step, there is no find." */
    private static void noFindWithoutAStep() {
        int[] counts = {0, 1, 2, 9, 10};
        for (int count : counts) {
            for (int steps = 0; steps <= 4; steps++) {
                SequencePatterns x = Make.alike(Make.steps(steps, REPEAT), count, 9, 0);
                x.begin();
                noFind(steps + " steps taken away", x, count);
                x.begin();
                noFind("begin twice", x, count);
            }
        }
        SequencePatterns later = new SequencePatterns();
        later.begin();
        for (int e = 0; e < 10; e++) {
            Check.due("2: event " + e + " without a step", later.event(e % 4, e, e % 6), 0);
        }
        noFind("events after begin", later, 10);
        later.step(5, 0, 0);
        noFind("a refused step is none", later, 10);
        later.restart();
        noFind("restart brings no step", later, 0);
        later.step(4, 0, 0);
        Check.due("2: with a step there are finds again", later.event(0, 0, 0), 1);
    }

    private static void noFind(String why, SequencePatterns x, int count) {
        String at = "2: " + why + ", " + count + " events: ";
        Check.due(at + "events()", x.events(), count);
        Check.due(at + "finds()", x.finds(), 0);
        Check.due(at + "longest()", x.longest(), -4);
        Check.due(at + "tightest()", x.tightest(), -4);
        Check.due(at + "lastValues()", x.lastValues(), 0);
        for (int e = -1; e <= count; e++) {
            int due = e < 0 || e == count ? -4 : 0;
            Check.due(at + "endingAt(" + e + ")", x.endingAt(e), due);
            Check.due(at + "beginningAt(" + e + ")", x.beginningAt(e), due);
            Check.due(at + "using(" + e + ")", x.using(e), due);
            Check.due(at + "without(" + e + ")", x.without(e), due);
        }
    }

    private static void beginLeavesEventsAndWindow() {
        SequencePatterns x = Make.alike(new SequencePatterns(), 10, 7, 4);
        x.window(36);
        x.begin();
        Check.due("2: the events stay", x.events(), 10);
        Check.due("2: the window stays", x.window(36), 36);
        x.step(0, 7, 3 + REPEAT);
        Check.due("2: types, values and times stay", x.finds(), 1023);
        x.window(35);
        Check.due("2: times stay", x.finds(), 1023 - 256);
        x.begin();
        Check.due("2: an eleventh event stays refused", x.event(0, 0, 0), -2);
    }

    /** Steps that were taken away leave neither type nor bound nor kind nor repeat behind. */
    private static void beginLeavesNothingOfTheSteps() {
        SequencePatterns x = Make.values(new SequencePatterns(), 5, 5, 5, 5, 0);
        x.begin();
        for (int k = 0; k < 4; k++) {
            x.step(3, 9, 3 + REPEAT);
        }
        x.begin();
        for (int k = 0; k < 4; k++) {
            x.step(4, 0, 0);
        }
        Check.due("2: neither type nor kind nor repeat is left", x.finds(), 5);
        Check.due("2: no repeat is left", x.longest(), 4);
        x.begin();
        x.step(0, 5, 3);
        Check.due("2: no bound is left", x.finds(), 4);
        Check.due("2: only the one step", x.longest(), 1);
    }

    /** The ends of each argument's range, in all combinations, at each number of steps. */
    private static void stepArguments() {
        for (int steps = 0; steps <= 4; steps++) {
            for (int type : Make.both(Make.STEP_TYPES, Make.NO_STEP_TYPES)) {
                for (int bound : Make.both(Make.BOUNDS, Make.NO_BOUNDS)) {
                    for (int kind : Make.both(Make.KINDS, Make.NO_KINDS)) {
                        stepArguments(steps, type, bound, kind);
                    }
                }
            }
        }
    }

    private static void stepArguments(int steps, int type, int bound, int kind) {
        boolean good = Make.has(Make.STEP_TYPES, type) && Make.has(Make.BOUNDS, bound) && Make.has(Make.KINDS, kind);
        int due = !good ? -1 : steps == 4 ? -2 : steps + 1;
        Check.due("3: after " + steps + " steps, step(" + type + ", " + bound + ", " + kind + ")",
                Make.steps(steps, 0).step(type, bound, kind), due);
    }

    /** "4 steps answers FULL. Otherwise the number of steps." */
    private static void stepsUntilFull() {
        for (int type = 0; type <= 4; type++) {
            for (int bound = 0; bound <= 9; bound++) {
                SequencePatterns x = new SequencePatterns();
                x.begin();
                for (int k = 1; k <= 4; k++) {
                    Check.due("3: step " + k + " of type " + type, x.step(type, bound, k), k);
                }
                for (int again = 0; again < 3; again++) {
                    Check.due("3: a fifth step of type " + type, x.step(type, bound, again), -2);
                }
            }
        }
    }

    /** The fifth step neither joins the pattern nor takes the place of one of the four. */
    private static void fullPatternStays() {
        SequencePatterns x = Make.pattern(0, 0, 1, 0, 2, 0, 3, 0);
        for (int type = 0; type <= 3; type++) {
            x.event(type, 0, 0);
        }
        Check.due("3: four steps", x.finds(), 1);
        Check.due("3: a fifth of any type", x.step(4, 0, REPEAT), -2);
        Check.due("3: still the four", x.finds(), 1);
        Check.due("3: the fourth is of type 3", x.event(0, 0, 0), 0);
        Check.due("3: the fourth takes one event", x.event(3, 0, 0), 1);
        Check.due("3: four events", x.longest(), 4);
        SequencePatterns bounds = new SequencePatterns();
        bounds.begin();
        for (int k = 0; k < 4; k++) {
            bounds.step(4, k, 3);
        }
        bounds.step(4, 9, 3);
        Make.values(bounds, 0, 1, 2);
        Check.due("3: the fourth has no new bound", bounds.event(0, 9, 0), 0);
        Check.due("3: the fourth has its bound", bounds.event(0, 3, 0), 1);
    }

    /** A step may come when there are events: none, one or ten. */
    private static void stepWithEvents() {
        int[] counts = {0, 1, 10};
        for (int count : counts) {
            SequencePatterns x = Make.alike(new SequencePatterns(), count, 0, 0);
            for (int k = 2; k <= 4; k++) {
                Check.due("3: step " + k + " with " + count + " events", x.step(4, 0, 0), k);
                Check.due("3: finds of " + k + " steps among " + count, x.finds(), Make.choose(count, k));
            }
            Check.due("3: a fifth step with " + count + " events", x.step(4, 0, 0), -2);
        }
    }

    /** "BAD_ARG if w is not 0 to 40, otherwise the window before." */
    private static void everyWindow() {
        SequencePatterns x = new SequencePatterns();
        int before = 10;
        for (int w = 0; w <= 40; w++) {
            Check.due("4: window(" + w + ")", x.window(w), before);
            Check.due("4: window(" + w + ") again", x.window(w), w);
            before = w;
        }
        Check.due("4: from the greatest to the least", x.window(0), 40);
        Check.due("4: from the least to the greatest", x.window(40), 0);
    }

    private static void windowArguments() {
        for (int start : Make.WINDOWS) {
            for (int w : Make.NO_WINDOWS) {
                SequencePatterns x = new SequencePatterns();
                Check.due("4: window(" + start + ")", x.window(start), 10);
                Check.due("4: window(" + w + ") after " + start, x.window(w), -1);
                Check.due("4: window(" + w + ") changes nothing", x.window(10), start);
            }
        }
        for (int w : Make.NO_WINDOWS) {
            SequencePatterns x = new SequencePatterns();
            Check.due("4: window(" + w + ") of a new object", x.window(w), -1);
            Check.due("4: the first window stays", x.window(0), 10);
        }
    }

    /** "The window becomes w": for events that have come and for those that come. */
    private static void windowActsAtOnce() {
        SequencePatterns x = Make.alike(Make.steps(2, 0), 4, 0, 5);
        x.window(5);
        Check.due("4: finds() of the events before", x.finds(), 3);
        Check.due("4: the next event", x.event(0, 0, 5), 1);
        x.window(15);
        Check.due("4: a wider window", x.finds(), 9);
        Check.due("4: the next event in a wider window", x.event(0, 0, 5), 3);
        x.window(0);
        Check.due("4: the least window", x.finds(), 0);
        Check.due("4: the next event in the least window", x.event(0, 0, 0), 1);
        x.window(-1);
        x.window(41);
        Check.due("4: a refused window", x.finds(), 1);
    }
}
