/** Makes objects for the tests, and tells the numbers that lie at the ends of the arguments' ranges. */
final class Make {
    private static final int MIN = Integer.MIN_VALUE;
    private static final int MAX = Integer.MAX_VALUE;

    static final int REPEAT = 8;

    static final int[] STEP_TYPES = {0, 1, 2, 3, 4};
    static final int[] NO_STEP_TYPES = {-1, 5, MIN, MAX, -2, 6, 8, 256, 65536, MIN + 4, MAX - 4};
    static final int[] BOUNDS = {0, 1, 8, 9};
    static final int[] NO_BOUNDS = {-1, 10, MIN, MAX, -9, 11, 256, MIN + 9};
    static final int[] KINDS = {0, 1, 2, 3, 4, 8, 9, 10, 11, 12};
    // Those from the fourth on have a kind or a repeat that is good while the other one is not.
    static final int[] NO_KINDS = {-1, MIN, MAX, 5, 6, 7, 13, 14, 15, 16, 17, 20, 21, 24, 28,
        -4, -5, -7, -8, -9, -12, -16, 128, 256, 264, 65536, MIN + 4, MIN + 8, MIN + 12, MAX - 3, MAX - 7};
    static final int[] WINDOWS = {0, 1, 39, 40};
    static final int[] NO_WINDOWS = {-1, 41, MIN, MAX, -2, -40, 42, 256, 65536, MIN + 40};
    static final int[] EVENT_TYPES = {0, 1, 2, 3};
    static final int[] NO_EVENT_TYPES = {-1, 4, MIN, MAX, -2, 5, 8, 256, 65536, MIN + 3};
    static final int[] VALUES = {0, 1, 8, 9};
    static final int[] NO_VALUES = {-1, 10, MIN, MAX, -9, 11, 256, MIN + 9};
    static final int[] GAPS = {0, 1, 4, 5};
    static final int[] NO_GAPS = {-1, 6, MIN, MAX, -5, 7, 256, MIN + 5};
    /** None of these is an event, however many there are. */
    static final int[] NO_EVENTS = {-1, 10, MIN, MAX, -2, -4, -10, 11, 16, 40, 256, 65536, MIN + 1, MAX - 9};

    private Make() {}

    /** A new object whose pattern has a step for each pair of type and kindAndRepeat, with bound 0. */
    static SequencePatterns pattern(int... typesAndKinds) {
        SequencePatterns x = new SequencePatterns();
        x.begin();
        for (int i = 0; i < typesAndKinds.length; i += 2) {
            x.step(typesAndKinds[i], 0, typesAndKinds[i + 1]);
        }
        return x;
    }

    /** A new object with as many steps of any type, all with this kindAndRepeat. */
    static SequencePatterns steps(int count, int kindAndRepeat) {
        SequencePatterns x = new SequencePatterns();
        x.begin();
        addSteps(x, count, kindAndRepeat);
        return x;
    }

    static void addSteps(SequencePatterns x, int count, int kindAndRepeat) {
        for (int k = 0; k < count; k++) {
            x.step(4, 0, kindAndRepeat);
        }
    }

    /** As many events of type 0, each with this value and this gap. */
    static SequencePatterns alike(SequencePatterns x, int count, int value, int gap) {
        for (int e = 0; e < count; e++) {
            x.event(0, value, gap);
        }
        return x;
    }

    /** An event of type 0 at one time for each value. */
    static SequencePatterns values(SequencePatterns x, int... values) {
        for (int value : values) {
            x.event(0, value, 0);
        }
        return x;
    }

    static int[] both(int[] some, int[] others) {
        int[] all = new int[some.length + others.length];
        System.arraycopy(some, 0, all, 0, some.length);
        System.arraycopy(others, 0, all, some.length, others.length);
        return all;
    }

    static boolean has(int[] numbers, int number) {
        for (int one : numbers) {
            if (one == number) {
                return true;
            }
        }
        return false;
    }

    /** The number of ways to choose some of so many. */
    static int choose(int from, int some) {
        int ways = some < 0 || some > from ? 0 : 1;
        for (int i = 0; i < some; i++) {
            ways = ways * (from - i) / (i + 1);
        }
        return ways;
    }
}
