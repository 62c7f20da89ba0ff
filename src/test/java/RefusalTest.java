import java.util.ArrayList;
import java.util.List;
import java.util.function.ToIntFunction;

/**
 * "A refused call answers the code named and changes nothing": for each refused call, every other call answers
 * afterwards what it answers on an object that is alike but for that call. The same is so for each question.
 */
public final class RefusalTest {
    /** A call with the answer that is due. */
    private record Call(String name, ToIntFunction<SequencePatterns> call, int due) {}

    /** How an object is made: of the tables' rows, the first so many steps and events. */
    private record State(int table, int steps, int events) {
        SequencePatterns make() {
            SequencePatterns x = new SequencePatterns();
            x.begin();
            for (int k = 0; k < steps; k++) {
                x.step(STEPS[table][3 * k], STEPS[table][3 * k + 1], STEPS[table][3 * k + 2]);
            }
            for (int e = 0; e < events; e++) {
                x.event(EVENTS[table][3 * e], EVENTS[table][3 * e + 1], EVENTS[table][3 * e + 2]);
            }
            x.window(WINDOWS[table]);
            return x;
        }
    }

    private static final int[] WINDOWS = {40, 9, 0, 20};
    private static final int[][] STEPS = {
        {4, 0, 8, 4, 0, 8, 4, 0, 8, 4, 0, 8},
        {0, 3, 9, 4, 6, 2, 1, 5, 11, 4, 9, 12},
        {4, 1, 0, 1, 7, 0, 4, 2, 10, 2, 2, 0},
        {4, 2, 11, 4, 5, 3, 3, 7, 11, 4, 6, 3},
    };
    private static final int[][] EVENTS = {
        {0, 9, 0, 1, 8, 4, 2, 7, 4, 3, 6, 4, 0, 5, 4, 1, 4, 4, 2, 3, 4, 3, 2, 4, 0, 1, 4, 1, 9, 4},
        {0, 1, 5, 0, 6, 0, 1, 5, 2, 1, 5, 1, 0, 1, 0, 2, 4, 3, 1, 5, 0, 3, 1, 1, 0, 6, 2, 1, 5, 0},
        {3, 9, 5, 1, 7, 0, 0, 5, 0, 2, 4, 0, 1, 8, 0, 1, 6, 1, 1, 4, 0, 0, 2, 0, 2, 0, 0, 2, 1, 0},
        {0, 2, 1, 1, 5, 2, 2, 2, 0, 3, 5, 1, 3, 7, 5, 3, 7, 0, 0, 6, 4, 1, 5, 3, 3, 7, 2, 2, 6, 1},
    };
    private static final int WAYS_ON = 5;
    private static final int[] EVENT_COUNTS = {0, 1, 2, 9, 10};

    public static void main(String[] args) {
        for (int table = 0; table < STEPS.length; table++) {
            for (int steps = 0; steps <= 4; steps++) {
                for (int events : EVENT_COUNTS) {
                    changesNothing(new State(table, steps, events));
                }
            }
        }
        newObject();
        Check.end();
    }

    private static void changesNothing(State state) {
        List<Call> calls = refused(state.steps(), state.events());
        calls.addAll(questions(state.make(), state.events()));
        for (int way = 0; way < WAYS_ON; way++) {
            List<Integer> due = afterwards(state.make(), way);
            SequencePatterns all = state.make();
            for (Call call : calls) {
                SequencePatterns x = state.make();
                answered(state, call, x);
                same(state + ", " + call.name(), way, due, afterwards(x, way));
                answered(state, call, all);
            }
            same(state + ", all calls that change nothing", way, due, afterwards(all, way));
        }
    }

    private static void answered(State state, Call call, SequencePatterns x) {
        Check.due(state + ", " + call.name(), call.call().applyAsInt(x), call.due());
    }

    private static void same(String what, int way, List<Integer> due, List<Integer> got) {
        Check.holds(what + " changes nothing, way " + way + ": " + due + ", but " + got, due.equals(got));
    }

    /** A new object has an empty list of events and a step that no call has made. */
    private static void newObject() {
        for (Call call : refused(1, 0)) {
            for (int way = 0; way < WAYS_ON; way++) {
                SequencePatterns x = new SequencePatterns();
                Check.due("new object, " + call.name(), call.call().applyAsInt(x), call.due());
                same("new object, " + call.name(), way, afterwards(new SequencePatterns(), way), afterwards(x, way));
            }
        }
    }

    private static List<Call> refused(int steps, int events) {
        List<Call> calls = new ArrayList<>();
        for (int type : Make.NO_STEP_TYPES) {
            calls.add(step(type, 3, 1, -1));
        }
        for (int bound : Make.NO_BOUNDS) {
            calls.add(step(2, bound, 9, -1));
        }
        for (int kind : Make.NO_KINDS) {
            calls.add(step(4, 9, kind, -1));
        }
        calls.add(step(-1, -1, -1, -1));
        if (steps == 4) {
            for (int kind : Make.KINDS) {
                calls.add(step(kind % 5, kind % 10, kind, -2));
            }
        }
        for (int type : Make.NO_EVENT_TYPES) {
            calls.add(event(type, 3, 5, -1));
        }
        for (int value : Make.NO_VALUES) {
            calls.add(event(1, value, 5, -1));
        }
        for (int gap : Make.NO_GAPS) {
            calls.add(event(2, 8, gap, -1));
        }
        calls.add(event(4, 10, 6, -1));
        if (events == 10) {
            for (int gap = 0; gap <= 5; gap++) {
                calls.add(event(gap % 4, 9 - gap, gap, -2));
            }
        }
        for (int w : Make.NO_WINDOWS) {
            calls.add(new Call("window(" + w + ")", x -> x.window(w), -1));
        }
        for (int e : Make.NO_EVENTS) {
            calls.addAll(noSuchEvent(e));
        }
        calls.addAll(noSuchEvent(events));
        return calls;
    }

    private static Call step(int type, int bound, int kind, int due) {
        return new Call("step(" + type + ", " + bound + ", " + kind + ")", x -> x.step(type, bound, kind), due);
    }

    private static Call event(int type, int value, int gap, int due) {
        return new Call("event(" + type + ", " + value + ", " + gap + ")", x -> x.event(type, value, gap), due);
    }

    private static List<Call> noSuchEvent(int e) {
        return List.of(
                new Call("endingAt(" + e + ")", x -> x.endingAt(e), -4),
                new Call("beginningAt(" + e + ")", x -> x.beginningAt(e), -4),
                new Call("using(" + e + ")", x -> x.using(e), -4),
                new Call("without(" + e + ")", x -> x.without(e), -4));
    }

    /** Each question, with the answer that it gets when they are asked of one object one after the other. */
    private static List<Call> questions(SequencePatterns x, int events) {
        List<Call> calls = new ArrayList<>();
        calls.add(question("events()", SequencePatterns::events, x));
        calls.add(question("finds()", SequencePatterns::finds, x));
        calls.add(question("longest()", SequencePatterns::longest, x));
        calls.add(question("tightest()", SequencePatterns::tightest, x));
        calls.add(question("lastValues()", SequencePatterns::lastValues, x));
        for (int n = 0; n < events; n++) {
            int e = n;
            calls.add(question("endingAt(" + e + ")", o -> o.endingAt(e), x));
            calls.add(question("beginningAt(" + e + ")", o -> o.beginningAt(e), x));
            calls.add(question("using(" + e + ")", o -> o.using(e), x));
            calls.add(question("without(" + e + ")", o -> o.without(e), x));
        }
        return calls;
    }

    private static Call question(String name, ToIntFunction<SequencePatterns> call, SequencePatterns x) {
        return new Call(name, call, call.applyAsInt(x));
    }

    /** What the object answers when one goes on in one of the ways: each begins with another call. */
    private static List<Integer> afterwards(SequencePatterns x, int way) {
        List<Integer> answers = new ArrayList<>();
        if (way == 0) {
            ask(x, answers);
            answers.add(x.window(7));
            ask(x, answers);
        } else if (way == 1) {
            answers.add(x.event(1, 5, 3));
            ask(x, answers);
            answers.add(x.event(2, 2, 0));
            answers.add(x.window(40));
            ask(x, answers);
        } else if (way == 2) {
            answers.add(x.step(4, 0, 8));
            ask(x, answers);
            answers.add(x.step(4, 0, 8));
            answers.add(x.event(1, 6, 2));
            ask(x, answers);
        } else if (way == 3) {
            x.restart();
            answers.add(x.event(0, 1, 2));
            answers.add(x.event(1, 3, 0));
            answers.add(x.event(1, 1, 1));
            ask(x, answers);
            answers.add(x.window(40));
            ask(x, answers);
        } else {
            x.begin();
            ask(x, answers);
            answers.add(x.step(4, 0, 8));
            ask(x, answers);
            answers.add(x.window(3));
            ask(x, answers);
        }
        return answers;
    }

    private static void ask(SequencePatterns x, List<Integer> answers) {
        answers.add(x.events());
        answers.add(x.finds());
        answers.add(x.longest());
        answers.add(x.tightest());
        answers.add(x.lastValues());
        for (int e = 0; e <= 10; e++) {
            answers.add(x.endingAt(e));
            answers.add(x.beginningAt(e));
            answers.add(x.using(e));
            answers.add(x.without(e));
        }
    }
}
