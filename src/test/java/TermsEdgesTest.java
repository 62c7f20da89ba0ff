/** The edges that the document's sections "What it is" and "Terms" name. */
public final class TermsEdgesTest {
    private static final int REPEAT = Make.REPEAT;

    public static void main(String[] args) {
        lastOf512Calls();
        eventTypes();
        eventValues();
        gapOfEventZero();
        everyGap();
        timesAddUp();
        timesBeyondTheGreatestWindow();
        oneToFourSteps();
        oneToFourRepeatedSteps();
        fewerEventsThanSteps();
        boundOfNoOtherKind();
        kindGreaterAtItsEdges();
        kindLessAtItsEdges();
        firstTakenNeedNotBeEventZero();
        justBeforeIsTheOneBeforeInTheList();
        kindEqualForTheFirstOne();
        kindEqualForEachOfAPart();
        veryFirstIsNotTheFirstOfThePart();
        oneOrMore();
        exactlyOne();
        typeOfEachOfAPart();
        windowAtItsEdges();
        windowIsOfTheWholeList();
        increasingNumbers();
        noEventTwice();
        listsAndCuts();
        Check.end();
    }

    /** "An object is used for at most 512 calls": the 512th call is still answered as it is due. */
    private static void lastOf512Calls() {
        SequencePatterns x = new SequencePatterns();
        for (int call = 0; call < 512; call++) {
            oneOf32Calls(x, call / 32, call % 32);
        }
    }

    private static void oneOf32Calls(SequencePatterns x, int round, int call) {
        String at = "round " + round + " of 32 calls, call " + call;
        // Of four repeated steps there end C(e, 3) * 2^(e - 3) finds at event e.
        int[] ending = {0, 0, 0, 1, 8, 40, 160, 560, 1792, 5376};
        if (call >= 1 && call <= 4) {
            Check.due(at, x.step(4, 0, REPEAT), call);
        } else if (call >= 7 && call <= 16) {
            Check.due(at, x.event(call % 4, 9, 4), ending[call - 7]);
        }
        switch (call) {
            case 0 -> x.begin();
            case 5 -> Check.due(at, x.step(4, 0, REPEAT), -2);
            case 6 -> Check.due(at, x.window(40), round == 0 ? 10 : 0);
            case 17 -> Check.due(at, x.event(0, 9, 4), -2);
            case 18 -> Check.due(at, x.events(), 10);
            case 19 -> Check.due(at, x.finds(), 7937);
            case 20 -> Check.due(at, x.endingAt(9), 5376);
            case 21 -> Check.due(at, x.beginningAt(0), 5376);
            case 22 -> Check.due(at, x.using(9), 5376);
            case 23 -> Check.due(at, x.longest(), 10);
            case 24 -> Check.due(at, x.tightest(), 12);
            case 25 -> Check.due(at, x.lastValues(), 9 * 7937);
            case 26 -> Check.due(at, x.without(9), 7937 - 5376);
            case 27 -> Check.due(at, x.without(10), -4);
            case 28 -> Check.due(at, x.window(0), 40);
            case 29 -> Check.due(at, x.finds(), 0);
            case 30 -> x.restart();
            case 31 -> Check.due(at, x.events(), 0);
            default -> { }
        }
    }

    /** "each has a TYPE, 0 to 3", "a step has a type (0 to 3, or 4 for any)". */
    private static void eventTypes() {
        for (int wanted = 0; wanted <= 4; wanted++) {
            for (int type = 0; type <= 3; type++) {
                SequencePatterns x = Make.pattern(wanted, 0);
                int due = wanted == 4 || wanted == type ? 1 : 0;
                Check.due("step of type " + wanted + ", event of type " + type, x.event(type, 0, 0), due);
                Check.due("step of type " + wanted + ", finds of type " + type, x.finds(), due);
                SequencePatterns second = Make.pattern(4, 0, wanted, 0);
                second.event(3 - type, 0, 0);
                Check.due("second step of type " + wanted + ", event of type " + type, second.event(type, 0, 0), due);
            }
        }
    }

    /** "a VALUE, 0 to 9", "3: the value must be equal to the bound". */
    private static void eventValues() {
        for (int bound = 0; bound <= 9; bound++) {
            SequencePatterns x = new SequencePatterns();
            x.begin();
            x.step(4, bound, 3);
            for (int value = 0; value <= 9; value++) {
                Check.due("bound " + bound + ", value " + value, x.event(0, value, 0), value == bound ? 1 : 0);
            }
            Check.due("the one value that is " + bound, x.lastValues(), bound);
        }
    }

    /** "event 0 has time 0 plus its GAP": what event 0's gap is moves all times alike. */
    private static void gapOfEventZero() {
        for (int gap = 0; gap <= 5; gap++) {
            SequencePatterns x = Make.steps(2, 0);
            x.event(0, 0, gap);
            x.event(0, 0, 3);
            Check.due("event 0 with gap " + gap + ", tightest()", x.tightest(), 3);
            x.window(3);
            Check.due("event 0 with gap " + gap + ", at the window", x.finds(), 1);
            x.window(2);
            Check.due("event 0 with gap " + gap + ", beyond the window", x.finds(), 0);
        }
    }

    /** "the time of the event before it plus its gap, 0 to 5". */
    private static void everyGap() {
        for (int gap = 0; gap <= 5; gap++) {
            SequencePatterns x = Make.alike(Make.steps(2, 0), 2, 0, gap);
            Check.due("gap " + gap, x.tightest(), gap);
            SequencePatterns three = Make.alike(Make.steps(3, 0), 3, 0, gap);
            Check.due("gap " + gap + " twice", three.tightest(), 2 * gap);
        }
    }

    private static void timesAddUp() {
        SequencePatterns x = Make.pattern(0, 0, 1, 0);
        x.window(40);
        x.event(0, 0, 2);
        int time = 0;
        for (int e = 1; e <= 8; e++) {
            time += e % 6;
            x.event(2, 0, e % 6);
        }
        Check.due("the last event", x.event(1, 0, 4), 1);
        Check.due("the gaps of all events between add up", x.tightest(), time + 4);
    }

    /** A window is 40 at most, and ten events may be 45 apart. */
    private static void timesBeyondTheGreatestWindow() {
        SequencePatterns x = Make.pattern(0, 0, 1, 0);
        x.window(40);
        x.event(0, 0, 5);
        for (int e = 1; e <= 7; e++) {
            x.event(2, 0, 5);
        }
        Check.due("40 apart in a window of 40", x.event(1, 0, 5), 1);
        Check.due("45 apart in a window of 40", x.event(1, 0, 5), 0);
        Check.due("tightest() at 40", x.tightest(), 40);
        x.window(39);
        Check.due("40 apart in a window of 39", x.finds(), 0);
        Check.due("tightest() beyond 39", x.tightest(), -4);
    }

    /** "A PATTERN is a list of 1 to 4 STEPS": with repeat 0, each choice of so many events is a find. */
    private static void oneToFourSteps() {
        for (int steps = 1; steps <= 4; steps++) {
            SequencePatterns x = Make.steps(steps, 0);
            for (int events = 0; events <= 10; events++) {
                String at = steps + " steps, " + events + " events: ";
                Check.due(at + "finds()", x.finds(), Make.choose(events, steps));
                Check.due(at + "longest()", x.longest(), events < steps ? -4 : steps);
                Check.due(at + "next event", x.event(events % 4, events % 10, 0),
                        events == 10 ? -2 : Make.choose(events, steps - 1));
            }
        }
    }

    /** A list of n events is cut into s parts in C(n - 1, s - 1) ways. */
    private static void oneToFourRepeatedSteps() {
        for (int steps = 1; steps <= 4; steps++) {
            SequencePatterns x = Make.steps(steps, REPEAT);
            for (int events = 0; events <= 10; events++) {
                String at = steps + " repeated steps, " + events + " events: ";
                int due = 0;
                for (int length = 1; length <= events; length++) {
                    due += Make.choose(events, length) * Make.choose(length - 1, steps - 1);
                }
                Check.due(at + "finds()", x.finds(), due);
                Check.due(at + "longest()", x.longest(), events < steps ? -4 : events);
                x.event(events % 4, events % 10, 0);
            }
        }
    }

    private static void fewerEventsThanSteps() {
        for (int steps = 2; steps <= 4; steps++) {
            for (int kind = 0; kind <= REPEAT; kind += REPEAT) {
                SequencePatterns x = Make.alike(Make.steps(steps, kind), steps - 1, 0, 0);
                String at = steps + " steps of " + kind + ", one event less: ";
                Check.due(at + "finds()", x.finds(), 0);
                Check.due(at + "longest()", x.longest(), -4);
                Check.due(at + "tightest()", x.tightest(), -4);
                Check.due(at + "using(0)", x.using(0), 0);
                Check.due(at + "just as many", x.event(0, 0, 0), 1);
                Check.due(at + "just as many, without(0)", x.without(0), 0);
            }
        }
    }

    /** The bound is of kind 3 alone. */
    private static void boundOfNoOtherKind() {
        int[] kinds = {0, 1, 2, 4};
        for (int kind : kinds) {
            for (int bound = 0; bound <= 9; bound += 3) {
                SequencePatterns x = new SequencePatterns();
                x.begin();
                x.step(4, bound, kind);
                for (int value = 0; value <= 9; value++) {
                    Check.due("kind " + kind + ", bound " + bound + ", value " + value, x.event(0, value, 0), 1);
                }
            }
        }
        SequencePatterns next = new SequencePatterns();
        next.step(4, 5, 1);
        next.step(4, 5, 2);
        next.step(4, 5, 4);
        Make.values(next, 1, 2, 0, 1);
        Check.due("kinds 1, 2 and 4 look at no bound", next.finds(), 1);
    }

    /** "1: the value must be greater than that of the event taken just before". */
    private static void kindGreaterAtItsEdges() {
        for (int before = 0; before <= 9; before++) {
            for (int value = 0; value <= 9; value++) {
                SequencePatterns x = Make.values(Make.pattern(4, 0, 4, 1), before);
                Check.due("kind 1: " + value + " after " + before, x.event(0, value, 0), value > before ? 1 : 0);
            }
        }
        for (int value = 0; value <= 9; value++) {
            Check.due("kind 1: " + value + " as the first one", Make.pattern(4, 1).event(0, value, 0), 1);
        }
    }

    /** "2: less than that (the same for the first one)". */
    private static void kindLessAtItsEdges() {
        for (int before = 0; before <= 9; before++) {
            for (int value = 0; value <= 9; value++) {
                SequencePatterns x = Make.values(Make.pattern(4, 0, 4, 2), before);
                Check.due("kind 2: " + value + " after " + before, x.event(0, value, 0), value < before ? 1 : 0);
            }
        }
        for (int value = 0; value <= 9; value++) {
            Check.due("kind 2: " + value + " as the first one", Make.pattern(4, 2).event(0, value, 0), 1);
        }
    }

    /** "for the first event taken: anything", whatever events there are that are not taken. */
    private static void firstTakenNeedNotBeEventZero() {
        SequencePatterns greater = Make.values(Make.pattern(4, 1), 9, 9, 0, 0);
        Check.due("kind 1: each of four is a first one", greater.finds(), 4);
        SequencePatterns less = Make.values(Make.pattern(4, 2), 0, 0, 9, 9);
        Check.due("kind 2: each of four is a first one", less.finds(), 4);
        SequencePatterns same = Make.values(Make.pattern(4, 4), 0, 9, 5, 0);
        Check.due("kind 4: each of four is a first one", same.finds(), 4);
        // Repeated: the lists that rise, {9} {0} {5} {0,5}, and those that fall, {9} {0} {5} {9,0} {9,5}.
        Check.due("kind 1: rising", Make.values(Make.pattern(4, 1 + REPEAT), 9, 0, 5).finds(), 4);
        Check.due("kind 2: falling", Make.values(Make.pattern(4, 2 + REPEAT), 9, 0, 5).finds(), 5);
        SequencePatterns ten = Make.alike(Make.pattern(0, 1), 9, 9, 5);
        Check.due("kind 1: the tenth is a first one", ten.event(0, 0, 5), 1);
        Check.due("kind 1: the tenth begins a find", ten.beginningAt(9), 1);
    }

    /** "'taken just before' is the event before it in the list": not in number, not in the part, not the first. */
    private static void justBeforeIsTheOneBeforeInTheList() {
        SequencePatterns skipped = Make.pattern(0, 0, 0, 1);
        skipped.event(0, 2, 0);
        skipped.event(1, 9, 0);
        Check.due("kind 1: an event between that is not taken", skipped.event(0, 3, 0), 1);
        SequencePatterns other = Make.pattern(0, 0, 0, 2);
        other.event(0, 3, 0);
        other.event(1, 0, 0);
        Check.due("kind 2: an event between that is not taken", other.event(0, 2, 0), 1);
        SequencePatterns part = Make.pattern(0, REPEAT, 1, 1 + REPEAT);
        part.event(0, 1, 0);
        part.event(0, 5, 0);
        Check.due("kind 1: after the last one of the part before", part.event(1, 4, 0), 1);
        // {0,3} and {0,2,3}: no list in which event 1 is followed by one that is not greater than 5.
        Check.due("kind 1: after the one before in the same part", part.event(1, 5, 0), 2);
    }

    /** Kind 3 makes no exception for the first event: it must be equal to the bound as well. */
    private static void kindEqualForTheFirstOne() {
        SequencePatterns x = new SequencePatterns();
        x.begin();
        x.step(4, 9, 3);
        Check.due("kind 3: the first one is less", x.event(0, 8, 0), 0);
        Check.due("kind 3: the first one is equal", x.event(0, 9, 0), 1);
        SequencePatterns zero = new SequencePatterns();
        zero.begin();
        zero.step(4, 0, 3);
        Check.due("kind 3: the first one is greater", zero.event(0, 1, 0), 0);
        Check.due("kind 3: the first one is 0", zero.event(0, 0, 0), 1);
    }

    /** "every event of part k has the type of step k .. and meets its bound". */
    private static void kindEqualForEachOfAPart() {
        SequencePatterns x = new SequencePatterns();
        x.begin();
        x.step(4, 9, 3 + REPEAT);
        x.step(4, 0, 3 + REPEAT);
        Make.values(x, 9, 9, 0, 0);
        Check.due("kind 3: one or more of 9, one or more of 0", x.finds(), 9);
        Check.due("kind 3: all four", x.longest(), 4);
        Check.due("kind 3: another value ends nothing", x.event(0, 5, 0), 0);
        Check.due("kind 3: another value is in no find", x.using(4), 0);
    }

    /** "4: the value must be the same as that of the very first event taken". */
    private static void veryFirstIsNotTheFirstOfThePart() {
        SequencePatterns x = Make.pattern(0, REPEAT, 1, 4 + REPEAT);
        x.event(0, 3, 0);
        x.event(0, 7, 0);
        Check.due("kind 4: the value of the very first one", x.event(1, 3, 0), 2);
        Check.due("kind 4: the value of the second one", x.event(1, 7, 0), 1);
        Check.due("kind 4: again that of the very first one", x.event(1, 3, 0), 4);
        SequencePatterns edges = Make.values(Make.pattern(4, 0, 4, 4), 0, 9, 0, 9);
        Check.due("kind 4: 0 and 0, 9 and 9", edges.finds(), 2);
    }

    /** "1 if it takes one or more". */
    private static void oneOrMore() {
        SequencePatterns x = Make.pattern(0, REPEAT);
        Check.due("repeat 1: one", x.event(0, 0, 0), 1);
        Check.due("repeat 1: one or two", x.event(0, 0, 0), 2);
        Make.alike(x, 8, 0, 0);
        Check.due("repeat 1: one to ten", x.finds(), 1023);
        Check.due("repeat 1: ten", x.longest(), 10);
        SequencePatterns last = Make.pattern(1, 0, 2, 0, 3, 0, 0, REPEAT);
        last.event(1, 0, 0);
        last.event(2, 0, 0);
        Check.due("repeat 1: none is too few", last.event(3, 0, 0), 0);
        Make.alike(last, 7, 0, 0);
        Check.due("repeat 1: one to seven behind three", last.finds(), 127);
        Check.due("repeat 1: seven behind three", last.longest(), 10);
        SequencePatterns middle = Make.pattern(1, 0, 0, REPEAT, 1, 0);
        middle.event(1, 0, 0);
        Check.due("repeat 1: none between is too few", middle.event(1, 0, 0), 0);
    }

    /** "0 if the step takes exactly one event". */
    private static void exactlyOne() {
        SequencePatterns x = Make.alike(Make.pattern(0, 0), 10, 0, 0);
        Check.due("repeat 0: ten lists of one", x.finds(), 10);
        Check.due("repeat 0: one", x.longest(), 1);
        SequencePatterns mixed = Make.alike(Make.pattern(0, 0, 0, REPEAT, 0, 0), 5, 0, 0);
        // Three, four or five events, and just one way to cut each list.
        Check.due("repeat 0: at both ends", mixed.finds(), 10 + 5 + 1);
        SequencePatterns four = Make.alike(Make.steps(4, 0), 4, 0, 0);
        Check.due("repeat 0: one each for four steps", four.finds(), 1);
        Check.due("repeat 0: one of five is left out", four.event(0, 0, 0), 4);
        Check.due("repeat 0: four of five", four.longest(), 4);
    }

    private static void typeOfEachOfAPart() {
        SequencePatterns x = Make.pattern(0, REPEAT);
        x.event(0, 0, 0);
        Check.due("another type ends nothing", x.event(1, 0, 0), 0);
        Check.due("another type between is not taken", x.event(0, 0, 0), 2);
        Check.due("another type is in no find", x.using(1), 0);
        Check.due("two of the type", x.longest(), 2);
    }

    /** "the time of the last event less that of the first is at most the window". */
    private static void windowAtItsEdges() {
        for (int apart = 0; apart <= 40; apart++) {
            SequencePatterns x = Make.pattern(0, 0, 1, 0);
            x.event(0, 0, 5);
            for (int e = 0; e < 8; e++) {
                int left = apart - 5 * e;
                x.event(2, 0, Math.max(0, Math.min(5, left)));
            }
            x.event(1, 0, 0);
            x.window(apart);
            Check.due(apart + " apart, in a window as wide", x.finds(), 1);
            Check.due(apart + " apart", x.tightest(), apart);
            if (apart > 0) {
                x.window(apart - 1);
                Check.due(apart + " apart, in a window one less", x.finds(), 0);
            }
        }
        SequencePatterns one = Make.alike(new SequencePatterns(), 1, 0, 5);
        one.window(0);
        Check.due("a list of one event is in a window of 0", one.finds(), 1);
    }

    private static void windowIsOfTheWholeList() {
        SequencePatterns x = Make.alike(Make.pattern(4, REPEAT), 4, 0, 5);
        x.window(10);
        // The four lists with both events 0 and 3 are 15 wide.
        Check.due("10 of 15 wide", x.finds(), 11);
        Check.due("three of the four events", x.longest(), 3);
        x.window(15);
        Check.due("all 15 wide", x.finds(), 15);
        Check.due("all four events", x.longest(), 4);
    }

    /** "a list of events with increasing numbers": at one time, too, the number tells which is first. */
    private static void increasingNumbers() {
        SequencePatterns x = Make.pattern(0, 0, 1, 0);
        x.event(1, 0, 0);
        Check.due("the second step's event came first", x.event(0, 0, 0), 0);
        Check.due("now one comes behind", x.event(1, 0, 0), 1);
        Check.due("in one order only", x.finds(), 1);
    }

    private static void noEventTwice() {
        for (int steps = 2; steps <= 4; steps++) {
            SequencePatterns x = Make.steps(steps, REPEAT);
            Check.due("one event for " + steps + " steps", x.event(0, 0, 0), 0);
            Check.due("one event for " + steps + " steps, finds()", x.finds(), 0);
        }
    }

    /** "Two finds are different if the lists or the cuts are." */
    private static void listsAndCuts() {
        SequencePatterns lists = Make.alike(Make.steps(2, 0), 3, 5, 0);
        Check.due("lists of events that are alike", lists.finds(), 3);
        SequencePatterns cuts = Make.alike(Make.steps(2, REPEAT), 3, 5, 0);
        Check.due("three lists with one cut, one with two", cuts.finds(), 5);
        Check.due("each cut counts, endingAt(2)", cuts.endingAt(2), 4);
        Check.due("each cut counts, beginningAt(0)", cuts.beginningAt(0), 4);
        Check.due("each cut counts, using(1)", cuts.using(1), 4);
        Check.due("each cut counts, lastValues()", cuts.lastValues(), 25);
        Check.due("a list cut in two ways is no longer", cuts.longest(), 3);
        SequencePatterns types = Make.pattern(0, REPEAT, 4, REPEAT);
        types.event(0, 0, 0);
        types.event(1, 0, 0);
        types.event(1, 0, 0);
        // {0,1,2} has one cut: event 1 is not of type 0.
        Check.due("a cut that the types rule out", types.finds(), 3);
    }
}
