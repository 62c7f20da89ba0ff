/**
 * Many runs of calls, each answer compared with one that is got by writing out every list and every cut
 * and testing it by the words of the document.
 */
public final class EnumerationTest {
    private static final int RUNS = 1500;
    private static final int MAX_CALLS = 512;
    private static final int CALLS_TO_ASK = 5 + 4 * 12;

    private static long seed = 20261115L;

    public static void main(String[] args) {
        for (int run = 0; run < RUNS; run++) {
            oneRun(run);
        }
        Check.end();
    }

    private static void oneRun(int run) {
        SequencePatterns x = new SequencePatterns();
        PlainModel m = new PlainModel();
        // Few types and values make finds common; all of them make every range be used.
        int types = 1 + below(4);
        int values = 1 + below(10);
        int gaps = 1 + below(6);
        int call = 0;
        // What an object answers after its 512th call is free.
        while (call + CALLS_TO_ASK <= MAX_CALLS) {
            call++;
            String at = "run " + run + ", call " + call + ": ";
            int choice = below(20);
            if (choice < 8) {
                int type = argument(types);
                int value = argument(values);
                int gap = argument(gaps);
                Check.due(at + "event(" + type + ", " + value + ", " + gap + ")",
                        x.event(type, value, gap), m.event(type, value, gap));
            } else if (choice < 12) {
                int type = below(2) == 0 ? 4 : argument(types);
                int bound = argument(values);
                int kind = below(12) == 0 ? below(30) - 8 : below(5) + 8 * below(2);
                Check.due(at + "step(" + type + ", " + bound + ", " + kind + ")",
                        x.step(type, bound, kind), m.step(type, bound, kind));
            } else if (choice < 14) {
                int w = below(3) == 0 ? below(46) - 2 : below(12);
                Check.due(at + "window(" + w + ")", x.window(w), m.window(w));
            } else if (choice < 16) {
                x.begin();
                m.stepCount = 0;
            } else if (choice == 16 && below(3) == 0) {
                x.restart();
                m.eventCount = 0;
            } else {
                ask(at, x, m);
                call += CALLS_TO_ASK - 1;
            }
        }
    }

    private static void ask(String at, SequencePatterns x, PlainModel m) {
        m.writeOut();
        Check.due(at + "events()", x.events(), m.eventCount);
        Check.due(at + "finds()", x.finds(), m.finds);
        Check.due(at + "longest()", x.longest(), m.longest);
        Check.due(at + "tightest()", x.tightest(), m.tightest);
        Check.due(at + "lastValues()", x.lastValues(), m.lastValues);
        for (int e = -1; e <= 10; e++) {
            boolean there = e >= 0 && e < m.eventCount;
            Check.due(at + "endingAt(" + e + ")", x.endingAt(e), there ? m.endingAt[e] : -4);
            Check.due(at + "beginningAt(" + e + ")", x.beginningAt(e), there ? m.beginningAt[e] : -4);
            Check.due(at + "using(" + e + ")", x.using(e), there ? m.using[e] : -4);
            Check.due(at + "without(" + e + ")", x.without(e), there ? m.without[e] : -4);
        }
    }

    /** Mostly 0 to count - 1, at times a number that may be out of its range. */
    private static int argument(int count) {
        return below(25) == 0 ? below(16) - 3 : below(count);
    }

    private static int below(int limit) {
        seed = seed * 6364136223846793005L + 1442695040888963407L;
        return (int) ((seed >>> 33) % limit);
    }
}
