import java.util.List;

/** Sentences of the document that the tests of ordinary inputs and of edges leave out, or test only in passing. */
public final class SentencesTest {
    private static final int MIN = Integer.MIN_VALUE;
    private static final int MAX = Integer.MAX_VALUE;
    private static final int REPEAT = Make.REPEAT;
    private static final int[] NUMBERS = {MIN, MIN + 1, MIN / 2, -65536, -256, -41, -9, -8, -5, -4, -2, -1, 0, 1, 2, 3,
        4, 5, 6, 8, 9, 10, 11, 12, 13, 16, 39, 40, 41, 255, 256, 65536, MAX / 2 + 1, MAX - 8, MAX - 1, MAX};

    public static void main(String[] args) {
        eventsAreNumberedAsTheyCome();
        aPatternIsAList();
        aStepHasATypeABoundAndAKind();
        kindAndRepeatTogether();
        theFirstPartMayBeRepeated();
        theWindowIsNoMatterOfThePattern();
        codesByName();
        noAnswerLooksLikeACode();
        neverThrows();
        neverThrowsAfter512Calls();
        sameCallsSameAnswers();
        Check.end();
    }

    /** "EVENTS are numbered 0, 1, .. in the order in which they come". */
    private static void eventsAreNumberedAsTheyCome() {
        for (int wanted = 0; wanted <= 9; wanted++) {
            SequencePatterns x = new SequencePatterns();
            x.begin();
            x.step(4, wanted, 3);
            // 3 and 10 have no divisor in common, so each value comes once, and not in order.
            for (int e = 0; e < 10; e++) {
                x.event(0, 3 * e % 10, 0);
            }
            for (int e = 0; e < 10; e++) {
                int due = 3 * e % 10 == wanted ? 1 : 0;
                Check.due("value " + wanted + ", endingAt(" + e + ")", x.endingAt(e), due);
                Check.due("value " + wanted + ", beginningAt(" + e + ")", x.beginningAt(e), due);
                Check.due("value " + wanted + ", using(" + e + ")", x.using(e), due);
                Check.due("value " + wanted + ", without(" + e + ")", x.without(e), 1 - due);
            }
        }
    }

    /** "A PATTERN is a list of 1 to 4 STEPS": their order is that in which they were appended. */
    private static void aPatternIsAList() {
        for (int order = 0; order < 256; order++) {
            int[] types = {order & 3, order >> 2 & 3, order >> 4 & 3, order >> 6};
            SequencePatterns x = new SequencePatterns();
            x.begin();
            for (int type : types) {
                x.step(type, 0, 0);
            }
            for (int type = 0; type <= 3; type++) {
                x.event(type, 0, 0);
            }
            Check.due("steps of types " + List.of(types[0], types[1], types[2], types[3]) + " among 0 1 2 3",
                    x.finds(), order == 0b11100100 ? 1 : 0);
        }
    }

    /** Each step has its own type, bound and kind, whatever those beside it have. */
    private static void aStepHasATypeABoundAndAKind() {
        SequencePatterns x = new SequencePatterns();
        x.begin();
        x.step(2, 6, 3);
        x.step(4, 6, 2);
        x.step(1, 6, 1);
        x.step(3, 2, 4);
        x.event(2, 6, 0);
        x.event(0, 4, 0);
        x.event(1, 5, 0);
        Check.due("6, less, greater, the same as 6", x.event(3, 6, 0), 1);
        Check.due("6, less, greater, not the same as 6", x.event(3, 2, 0), 0);
        Check.due("6, less, greater, of another type", x.event(2, 6, 0), 0);
        Check.due("nothing else", x.finds(), 1);
    }

    /** "with kindAndRepeat = kind + 8 repeat": what a second step with each of them finds among 5, 5, 3, 5, 7, 1. */
    private static void kindAndRepeatTogether() {
        // Pairs: all; 5 7 twice, 3 5, 3 7, 5 7; 5 3 and 5 1 from both, 3 1, 5 1, 7 1; 5s behind one; 5s behind a 5.
        int[] pairs = {15, 5, 7, 4, 3};
        // Longer ones: all; 3 5 7; 5 3 1 from both; 5 5 5; 5 5 5.
        int[] longer = {20 + 15 + 6 + 1, 1, 2, 1, 1};
        int[] longest = {6, 3, 3, 3, 3};
        for (int kind = 0; kind <= 4; kind++) {
            Check.due("kind " + kind + ", finds()", kindAmong(kind).finds(), pairs[kind]);
            Check.due("kind " + kind + ", longest()", kindAmong(kind).longest(), 2);
            Check.due("kind " + kind + " repeated", kindAmong(kind + REPEAT).finds(), pairs[kind] + longer[kind]);
            Check.due("kind " + kind + " repeated, longest()", kindAmong(kind + REPEAT).longest(), longest[kind]);
        }
    }

    private static SequencePatterns kindAmong(int kindAndRepeat) {
        SequencePatterns x = new SequencePatterns();
        x.step(4, 5, kindAndRepeat);
        return Make.values(x, 5, 5, 3, 5, 7, 1);
    }

    /** "taken just before" and "the very first event taken" are looked at inside the first part as well. */
    private static void theFirstPartMayBeRepeated() {
        Check.due("kind 1 in the first part", Make.values(Make.pattern(4, 1 + REPEAT), 2, 4, 3, 5).finds(), 11);
        Check.due("kind 2 in the first part", Make.values(Make.pattern(4, 2 + REPEAT), 2, 4, 3, 5).finds(), 5);
        Check.due("kind 4 in the first part", Make.values(Make.pattern(4, 4 + REPEAT), 2, 4, 2, 2).finds(), 8);
    }

    /** "There is a WINDOW": one for all patterns, which neither begin nor step nor restart moves. */
    private static void theWindowIsNoMatterOfThePattern() {
        SequencePatterns x = new SequencePatterns();
        x.window(23);
        x.begin();
        Check.due("after begin", x.window(24), 23);
        x.step(4, 9, 12);
        Check.due("after step", x.window(25), 24);
        x.event(0, 0, 5);
        Check.due("after event", x.window(26), 25);
        x.restart();
        Check.due("after restart", x.window(27), 26);
    }

    /** "An argument is out of its range", "A limit is reached", "There is no such thing". */
    private static void codesByName() {
        SequencePatterns x = Make.alike(Make.steps(4, 0), 10, 0, 0);
        Check.holds("step, out of its range", "BAD_ARG".equals(code(x.step(5, 0, 0))));
        Check.holds("window, out of its range", "BAD_ARG".equals(code(x.window(41))));
        Check.holds("event, out of its range", "BAD_ARG".equals(code(x.event(0, 10, 0))));
        Check.holds("step, limit", "FULL".equals(code(x.step(0, 0, 0))));
        Check.holds("event, limit", "FULL".equals(code(x.event(0, 0, 0))));
        Check.holds("endingAt, no such event", "NONE".equals(code(x.endingAt(10))));
        Check.holds("beginningAt, no such event", "NONE".equals(code(x.beginningAt(10))));
        Check.holds("using, no such event", "NONE".equals(code(x.using(10))));
        Check.holds("without, no such event", "NONE".equals(code(x.without(10))));
        x.begin();
        Check.holds("longest, no such find", "NONE".equals(code(x.longest())));
        Check.holds("tightest, no such find", "NONE".equals(code(x.tightest())));
    }

    /** The constants can be case labels, as each is known when a user's program is compiled. */
    private static String code(int answer) {
        return switch (answer) {
            case SequencePatterns.BAD_ARG -> "BAD_ARG";
            case SequencePatterns.FULL -> "FULL";
            case SequencePatterns.NONE -> "NONE";
            default -> "" + answer;
        };
    }

    /** What is counted, summed or told is 0 or more, so that a code is never taken for it. */
    private static void noAnswerLooksLikeACode() {
        for (int steps = 0; steps <= 4; steps++) {
            for (int kind : Make.KINDS) {
                SequencePatterns x = Make.steps(steps, kind);
                for (int e = 0; e < 10; e++) {
                    Check.holds("event", x.event(e % 4, 7 * e % 10, 5 * e % 6) >= 0);
                }
                Check.holds("finds()", x.finds() >= 0);
                Check.holds("lastValues()", x.lastValues() >= 0);
                Check.holds("window", x.window(0) >= 0);
                for (int e = 0; e < 10; e++) {
                    Check.holds("endingAt(" + e + ")", x.endingAt(e) >= 0);
                    Check.holds("beginningAt(" + e + ")", x.beginningAt(e) >= 0);
                    Check.holds("using(" + e + ")", x.using(e) >= 0);
                    Check.holds("without(" + e + ")", x.without(e) >= 0);
                }
            }
        }
    }

    /** "No call ever throws": all methods with all these numbers, with each number of steps and events. */
    private static void neverThrows() {
        for (int steps = 0; steps <= 4; steps++) {
            for (int events = 0; events <= 10; events++) {
                for (int number : NUMBERS) {
                    callAll(Make.alike(Make.steps(steps, 1 + REPEAT), events, 9, 5), number, number, number);
                }
            }
        }
        for (int one : NUMBERS) {
            for (int other : NUMBERS) {
                for (int third : NUMBERS) {
                    callAll(new SequencePatterns(), one, other, third);
                }
            }
        }
    }

    /** What an object answers after its 512th call is free, but it still answers. */
    private static void neverThrowsAfter512Calls() {
        SequencePatterns x = new SequencePatterns();
        for (int round = 0; round < 10000; round++) {
            callAll(x, round % 4, round % 10, round % 6);
            callAll(x, NUMBERS[round % NUMBERS.length], round % 10, round % 13);
            // Both often, but seldom at once, so that there is every number of steps and events.
            if (round % 5 == 0) {
                x.begin();
            }
            if (round % 14 == 0) {
                x.restart();
            }
        }
    }

    private static void callAll(SequencePatterns x, int a, int b, int c) {
        try {
            ask(x, a);
            x.event(a, b, c);
            x.step(a, b, c);
            x.window(a);
            ask(x, b);
            if (c < 0) {
                x.begin();
                ask(x, c);
                x.restart();
                ask(x, a);
            }
        } catch (RuntimeException | Error thrown) {
            Check.holds("a call with " + a + ", " + b + ", " + c + " threw " + thrown, false);
        }
    }

    private static String ask(SequencePatterns x, int e) {
        return x.events() + " " + x.finds() + " " + x.endingAt(e) + " " + x.beginningAt(e) + " " + x.using(e) + " "
                + x.longest() + " " + x.tightest() + " " + x.lastValues() + " " + x.without(e);
    }

    /** The answers are those of the object's own calls alone, whatever is done with other objects between. */
    private static void sameCallsSameAnswers() {
        SequencePatterns alone = new SequencePatterns();
        StringBuilder due = new StringBuilder();
        for (int call = 0; call < 24; call++) {
            due.append(oneOfARun(alone, call));
        }
        SequencePatterns one = new SequencePatterns();
        SequencePatterns other = new SequencePatterns();
        StringBuilder got = new StringBuilder();
        for (int call = 0; call < 24; call++) {
            oneOfARun(other, 23 - call);
            got.append(oneOfARun(one, call));
            ask(other, call % 10);
        }
        Check.holds("the same answers beside another object: " + due + ", but " + got,
                due.toString().equals(got.toString()));
    }

    private static String oneOfARun(SequencePatterns x, int call) {
        if (call == 7) {
            x.begin();
        } else if (call == 15) {
            x.restart();
        }
        int answer = switch (call % 4) {
            case 0 -> x.step(call % 5, call % 10, call % 3 + 8 * (call % 2));
            case 1 -> x.window(call);
            default -> x.event(call % 3, call % 10, call % 6);
        };
        return answer + " (" + ask(x, call % 7) + ") ";
    }
}
