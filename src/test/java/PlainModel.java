import java.util.ArrayList;
import java.util.Arrays;
import java.util.List;

/** The document's words taken as they stand: every list of events, with every cut, is written out and tested. */
final class PlainModel {
    int eventCount = 0;
    int stepCount = 1;
    int finds;
    int longest;
    int tightest;
    int lastValues;
    final int[] endingAt = new int[10];
    final int[] beginningAt = new int[10];
    final int[] using = new int[10];
    final int[] without = new int[10];

    private int window = 10;
    private final int[] type = new int[10];
    private final int[] value = new int[10];
    private final int[] time = new int[10];
    private final int[] stepType = {4, 0, 0, 0};
    private final int[] bound = new int[4];
    private final int[] kind = new int[4];
    private final int[] repeat = new int[4];

    int step(int t, int b, int kindAndRepeat) {
        int k = Math.floorMod(kindAndRepeat, 8);
        int r = Math.floorDiv(kindAndRepeat, 8);
        if (outside(t, 4) || outside(b, 9) || outside(k, 4) || outside(r, 1)) {
            return -1;
        }
        if (stepCount == 4) {
            return -2;
        }
        stepType[stepCount] = t;
        bound[stepCount] = b;
        kind[stepCount] = k;
        repeat[stepCount] = r;
        return ++stepCount;
    }

    int window(int w) {
        if (outside(w, 40)) {
            return -1;
        }
        int before = window;
        window = w;
        return before;
    }

    int event(int t, int v, int gap) {
        if (outside(t, 3) || outside(v, 9) || outside(gap, 5)) {
            return -1;
        }
        if (eventCount == 10) {
            return -2;
        }
        type[eventCount] = t;
        value[eventCount] = v;
        time[eventCount] = (eventCount == 0 ? 0 : time[eventCount - 1]) + gap;
        eventCount++;
        writeOut();
        return endingAt[eventCount - 1];
    }

    private static boolean outside(int number, int greatest) {
        return number < 0 || number > greatest;
    }

    /** Finds every find and sets what is asked of them. */
    void writeOut() {
        finds = 0;
        longest = -4;
        tightest = -4;
        lastValues = 0;
        for (int[] counts : List.of(endingAt, beginningAt, using, without)) {
            Arrays.fill(counts, 0);
        }
        for (int chosen = 1; chosen < 1 << eventCount; chosen++) {
            List<Integer> list = new ArrayList<>();
            for (int e = 0; e < eventCount; e++) {
                if ((chosen >> e & 1) == 1) {
                    list.add(e);
                }
            }
            int cuts = stepCount == 0 ? 0 : cuts(list, 0, 0);
            if (cuts > 0 && span(list) <= window) {
                note(list, cuts);
            }
        }
    }

    /** In how many ways the list from this place on is cut into the parts from this step on. */
    private int cuts(List<Integer> list, int place, int step) {
        if (step == stepCount) {
            return place == list.size() ? 1 : 0;
        }
        int count = 0;
        int end = repeat[step] == 1 ? list.size() : Math.min(place + 1, list.size());
        for (int next = place; next < end && meets(list, next, step); next++) {
            count += cuts(list, next + 1, step + 1);
        }
        return count;
    }

    private boolean meets(List<Integer> list, int place, int step) {
        int e = list.get(place);
        boolean typeMeets = stepType[step] == 4 || stepType[step] == type[e];
        boolean boundMeets = switch (kind[step]) {
            case 1 -> place == 0 || value[e] > value[list.get(place - 1)];
            case 2 -> place == 0 || value[e] < value[list.get(place - 1)];
            case 3 -> value[e] == bound[step];
            case 4 -> value[e] == value[list.get(0)];
            default -> true;
        };
        return typeMeets && boundMeets;
    }

    private int span(List<Integer> list) {
        return time[list.get(list.size() - 1)] - time[list.get(0)];
    }

    private void note(List<Integer> list, int cuts) {
        int last = list.get(list.size() - 1);
        finds += cuts;
        longest = Math.max(longest, list.size());
        tightest = tightest == -4 ? span(list) : Math.min(tightest, span(list));
        lastValues += cuts * value[last];
        endingAt[last] += cuts;
        beginningAt[list.get(0)] += cuts;
        for (int e = 0; e < eventCount; e++) {
            if (list.contains(e)) {
                using[e] += cuts;
            } else {
                without[e] += cuts;
            }
        }
    }
}
