/**
 * Many runs of calls, each answer compared with one that is got by writing out every list and every cut
 * and testing it by the words of the document.
 */
public final class EnumerationTest {
    private static final int RUNS = 1500;
    private static final int MIXED_RUNS = 400;
    private static final int MAX_CALLS = 512;
    private static final int CALLS_TO_ASK = 5 + 4 * 12;

    private static long seed = 20261115L;
    private static int types;
    private static int values;
    private static int gaps;

    public static void main(String[] args) {
        for (int run = 0; run < RUNS; run++) {
            oneRun(run);
        }
        for (int run = 0; run < MIXED_RUNS; run++) {
            mixedRun(RUNS + run);
        }
        Check.end();
    }

    /** Now and then, everything is asked at once. */
    private static void oneRun(int run) {
        SequencePatterns x = new SequencePatterns();
        PlainModel m = new PlainModel();
        chooseRanges();
        int call = 0;
        // What an object answers after its 512th call is free.
        while (call + CALLS_TO_ASK <= MAX_CALLS) {
            call++;
            String at = "run " + run + ", call " + call + ": ";
            if (below(20) < 17) {
                change(at, x, m);
            } else {
                ask(at, x, m);
                call += CALLS_TO_ASK - 1;
            }
        }
    }

    /** All 512 calls, a change and a question in turn by chance. */
    private static void mixedRun(int run) {
        SequencePatterns x = new SequencePatterns();
        PlainModel m = new PlainModel();
        chooseRanges();
        for (int call = 1; call <= MAX_CALLS; call++) {
            String at = "mixed run " + run + ", call " + call + ": ";
            if (below(2) == 0) {
                change(at, x, m);
            } else {
                askOne(at, x, m);
            }
        }
    }

    /** Few types and values make finds common; all of them make every range be used. */
    private static void chooseRanges() {
        types = 1 + below(4);
        values = 1 + below(10);
        gaps = 1 + below(6);
    }

    private static void change(String at, SequencePatterns x, PlainModel m) {
        int choice = below(17);
        if (choice < 8) {
            int type = argument(types);
            int value = argument(values);
            int gap = argument(gaps);
            Check.due(at + "event(" + type + ", " + value + ", " + gap + ")",
                    x.event(type, value, gap), m.event(type, value, gap));
        } else if (choice < 12) {
            int type = below(2) == 0 ? 4 : argument(types);
            int bound = argument(values);
            int kind = below(12) == 0 ? anyNumber() : below(5) + 8 * below(2);
            Check.due(at + "step(" + type + ", " + bound + ", " + kind + ")",
                    x.step(type, bound, kind), m.step(type, bound, kind));
        } else if (choice < 14) {
            int w = below(12) == 0 ? anyNumber() : below(3) == 0 ? below(46) - 2 : below(12);
            Check.due(at + "window(" + w + ")", x.window(w), m.window(w));
        } else if (choice < 16) {
            x.begin();
            m.stepCount = 0;
        } else if (below(3) == 0) {
            x.restart();
            m.eventCount = 0;
        }
    }

    private static void ask(String at, SequencePatterns x, PlainModel m) {
        m.writeOut();
        Check.due(at + "events()", x.events(), m.eventCount);
        Check.due(at + "finds()", x.finds(), m.finds);
        Check.due(at + "longest()", x.longest(), m.longest);
        Check.due(at + "tightest()", x.tightest(), m.tightest);
        Check.due(at + "lastValues()", x.lastValues(), m.lastValues);
        for (int e = -1; e <= 10; e++) {
            boolean there = e >= 0 && e < m.eventCount;
            Check.due(at + "endingAt(" + e + ")", x.endingAt(e), there ? m.endingAt[e] : -4);
            Check.due(at + "beginningAt(" + e + ")", x.beginningAt(e), there ? m.beginningAt[e] : -4);
            Check.due(at + "using(" + e + ")", x.using(e), there ? m.using[e] : -4);
            Check.due(at + "without(" + e + ")", x.without(e), there ? m.without[e] : -4);
        }
    }

    private static void askOne(String at, SequencePatterns x, PlainModel m) {
        m.writeOut();
        int e = below(8) == 0 ? anyNumber() : below(11);
        boolean there = e >= 0 && e < m.eventCount;
        switch (below(9)) {
            case 0 -> Check.due(at + "events()", x.events(), m.eventCount);
            case 1 -> Check.due(at + "finds()", x.finds(), m.finds);
            case 2 -> Check.due(at + "longest()", x.longest(), m.longest);
            case 3 -> Check.due(at + "tightest()", x.tightest(), m.tightest);
            case 4 -> Check.due(at + "lastValues()", x.lastValues(), m.lastValues);
            case 5 -> Check.due(at + "endingAt(" + e + ")", x.endingAt(e), there ? m.endingAt[e] : -4);
            case 6 -> Check.due(at + "beginningAt(" + e + ")", x.beginningAt(e), there ? m.beginningAt[e] : -4);
            case 7 -> Check.due(at + "using(" + e + ")", x.using(e), there ? m.using[e] : -4);
            default -> Check.due(at + "without(" + e + ")", x.without(e), there ? m.without[e] : -4);
        }
    }

    /** Mostly 0 to count - 1, at times a number that may be out of its range. */
    private static int argument(int count) {
        return below(25) == 0 ? anyNumber() : below(count);
    }

    /** Mostly near the arguments' ranges, at times near the least or the greatest int. */
    private static int anyNumber() {
        int near = below(30) - 8;
        return switch (below(6)) {
            case 0 -> Integer.MIN_VALUE + below(20);
            case 1 -> Integer.MAX_VALUE - below(20);
            default -> near;
        };
    }

    private static int below(int limit) {
        seed = seed * 6364136223846793005L + 1442695040888963407L;
        return (int) ((seed >>> 33) % limit);
    }
}
