/** Events that come one after the other, and how many times a pattern of events is found among them. */
public final class SequencePatterns {
    public static final int BAD_ARG = -1;
    public static final int FULL = -2;
    public static final int NONE = -4;

    private static final int MAX_EVENTS = 10;
    private static final int MAX_TYPE = 3;
    private static final int MAX_VALUE = 9;
    private static final int MAX_GAP = 5;

    private static final int MAX_STEPS = 4;
    private static final int ANY_TYPE = 4;
    private static final int MAX_WINDOW = 40;
    private static final int FIRST_WINDOW = 10;

    private static final int GREATER = 1;
    private static final int LESS = 2;
    private static final int EQUAL_TO_BOUND = 3;
    private static final int SAME_AS_FIRST = 4;
    private static final int REPEAT_FACTOR = 8;

    private static final int CELLS = MAX_EVENTS * MAX_STEPS;
    private static final int NO_EVENT = -1;

    private final int[] types = new int[MAX_EVENTS];
    private final int[] values = new int[MAX_EVENTS];
    private final int[] times = new int[MAX_EVENTS];
    private int eventCount;

    private final int[] stepTypes = new int[MAX_STEPS];
    private final int[] bounds = new int[MAX_STEPS];
    private final int[] kinds = new int[MAX_STEPS];
    private final int[] repeats = new int[MAX_STEPS];
    private int stepCount;

    private int windowWidth;

    // A find is grown one event at a time. Whether an event may come next depends only on the first
    // event (window, kind 4), on the event just before (kinds 1 and 2) and on the step. So for one
    // first event it is enough to keep, for each event and step, the beginnings of finds that have
    // come as far as that event as a member of that step's part: their number and greatest length.
    private final int[] ways = new int[CELLS];
    private final int[] lengths = new int[CELLS];

    public SequencePatterns() {
        eventCount = 0;
        stepTypes[0] = ANY_TYPE;
        stepCount = 1;
        windowWidth = FIRST_WINDOW;
    }

    public void begin() {
        stepCount = 0;
    }

    public int step(int type, int bound, int kindAndRepeat) {
        if (type < 0 || type > ANY_TYPE || bound < 0 || bound > MAX_VALUE) {
            return BAD_ARG;
        }
        if (kindAndRepeat < 0 || kindAndRepeat >= 2 * REPEAT_FACTOR) {
            return BAD_ARG;
        }
        int kind = kindAndRepeat % REPEAT_FACTOR;
        if (kind > SAME_AS_FIRST) {
            return BAD_ARG;
        }
        if (stepCount >= MAX_STEPS) {
            return FULL;
        }
        stepTypes[stepCount] = type;
        bounds[stepCount] = bound;
        kinds[stepCount] = kind;
        repeats[stepCount] = kindAndRepeat / REPEAT_FACTOR;
        stepCount++;
        return stepCount;
    }

    public int window(int w) {
        if (w < 0 || w > MAX_WINDOW) {
            return BAD_ARG;
        }
        int before = windowWidth;
        windowWidth = w;
        return before;
    }

    public int event(int type, int value, int gap) {
        if (type < 0 || type > MAX_TYPE || value < 0 || value > MAX_VALUE || gap < 0 || gap > MAX_GAP) {
            return BAD_ARG;
        }
        if (eventCount >= MAX_EVENTS) {
            return FULL;
        }
        int e = eventCount;
        types[e] = type;
        values[e] = value;
        times[e] = e == 0 ? gap : times[e - 1] + gap;
        eventCount++;
        return countEndingAt(e);
    }

    public void restart() {
        eventCount = 0;
    }

    public int events() {
        return eventCount;
    }

    public int finds() {
        return countLeavingOut(NO_EVENT);
    }

    public int endingAt(int e) {
        return isEvent(e) ? countEndingAt(e) : NONE;
    }

    public int beginningAt(int e) {
        return isEvent(e) ? countBeginningAt(e, NO_EVENT) : NONE;
    }

    public int using(int e) {
        if (!isEvent(e)) {
            return NONE;
        }
        int all = countLeavingOut(NO_EVENT);
        return all - countLeavingOut(e);
    }

    public int longest() {
        int greatest = NONE;
        for (int first = 0; first < eventCount; first++) {
            growFrom(first, NO_EVENT);
            for (int last = first; last < eventCount; last++) {
                if (findsGrownTo(last) > 0 && lengths[lastCell(last)] > greatest) {
                    greatest = lengths[lastCell(last)];
                }
            }
        }
        return greatest;
    }

    public int tightest() {
        int least = NONE;
        for (int first = 0; first < eventCount; first++) {
            growFrom(first, NO_EVENT);
            for (int last = first; last < eventCount; last++) {
                int span = times[last] - times[first];
                if (findsGrownTo(last) > 0 && (least == NONE || span < least)) {
                    least = span;
                }
            }
        }
        return least;
    }

    public int lastValues() {
        int sum = 0;
        for (int last = 0; last < eventCount; last++) {
            sum += values[last] * countEndingAt(last);
        }
        return sum;
    }

    public int without(int e) {
        return isEvent(e) ? countLeavingOut(e) : NONE;
    }

    private boolean isEvent(int e) {
        return e >= 0 && e < eventCount;
    }

    private int countLeavingOut(int leftOut) {
        int count = 0;
        for (int first = 0; first < eventCount; first++) {
            count += countBeginningAt(first, leftOut);
        }
        return count;
    }

    private int countBeginningAt(int first, int leftOut) {
        growFrom(first, leftOut);
        int count = 0;
        for (int last = first; last < eventCount; last++) {
            count += findsGrownTo(last);
        }
        return count;
    }

    private int countEndingAt(int last) {
        int count = 0;
        for (int first = 0; first <= last; first++) {
            growFrom(first, NO_EVENT);
            count += findsGrownTo(last);
        }
        return count;
    }

    /** The number of finds that begin at the event last given to growFrom and end at this one. */
    private int findsGrownTo(int last) {
        return stepCount == 0 ? 0 : ways[lastCell(last)];
    }

    /** Only for a pattern that has a step. */
    private int lastCell(int e) {
        return e * MAX_STEPS + stepCount - 1;
    }

    private void growFrom(int first, int leftOut) {
        for (int cell = 0; cell < CELLS; cell++) {
            ways[cell] = 0;
            lengths[cell] = 0;
        }
        if (stepCount == 0 || first == leftOut || !suits(first, 0, first, first)) {
            return;
        }
        ways[first * MAX_STEPS] = 1;
        lengths[first * MAX_STEPS] = 1;
        for (int e = first + 1; e < eventCount; e++) {
            // Times never fall, so a list that is within the window at its end is so everywhere.
            if (e != leftOut && times[e] - times[first] <= windowWidth) {
                growTo(e, first);
            }
        }
    }

    private void growTo(int e, int first) {
        for (int k = 0; k < stepCount; k++) {
            int to = e * MAX_STEPS + k;
            for (int before = first; before < e; before++) {
                int from = before * MAX_STEPS + k;
                boolean suited = suits(e, k, before, first);
                if (suited && repeats[k] == 1) {
                    lengthen(from, to);
                }
                if (suited && k > 0) {
                    lengthen(from - 1, to);
                }
            }
        }
    }

    private void lengthen(int from, int to) {
        if (ways[from] == 0) {
            return;
        }
        ways[to] += ways[from];
        if (lengths[from] >= lengths[to]) {
            lengths[to] = lengths[from] + 1;
        }
    }

    /** Whether step k can take event e; for the first event of a list, before is that event itself. */
    private boolean suits(int e, int k, int before, int first) {
        if (stepTypes[k] != ANY_TYPE && stepTypes[k] != types[e]) {
            return false;
        }
        switch (kinds[k]) {
            case GREATER:
                return e == first || values[e] > values[before];
            case LESS:
                return e == first || values[e] < values[before];
            case EQUAL_TO_BOUND:
                return values[e] == bounds[k];
            case SAME_AS_FIRST:
                return values[e] == values[first];
            default:
                return true;
        }
    }
}
