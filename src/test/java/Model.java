import java.util.ArrayDeque;
import java.util.ArrayList;
import java.util.Arrays;
import java.util.List;
import java.util.Map;
import java.util.TreeMap;

/** The document said a second time, with the Java library and other ways than the program's. */
final class Model {
    private final List<int[]> gates = new ArrayList<>();
    private final int[] nexts = {3, 4, 5, 6};
    private final int[] begins = new int[4];
    private int watching = 0;

    private boolean within(int number, int count) {
        return 0 <= number && number < count;
    }

    int gate(int kind, int a, int b, int c) {
        int n = signals();
        if (!within(kind, 10) || !within(a, n) || !within(b, n) || (kind >= 7 && !within(c, n))) {
            return -1;
        }
        if (gates.size() == 12) {
            return -2;
        }
        gates.add(new int[] {kind, a, b, c});
        return n;
    }

    int drop() {
        if (gates.isEmpty()) {
            return -1;
        }
        gates.remove(gates.size() - 1);
        int gone = signals();
        for (int r = 0; r < 4; r++) {
            nexts[r] = nexts[r] == gone ? 3 + r : nexts[r];
        }
        watching = watching == gone ? 0 : watching;
        return gone;
    }

    int signals() {
        return 7 + gates.size();
    }

    boolean next(int r, int signal) {
        boolean fine = within(r, 4) && within(signal, signals());
        if (fine) {
            nexts[r] = signal;
        }
        return fine;
    }

    boolean begin(int r, int v) {
        boolean fine = within(r, 4) && within(v, 2);
        if (fine) {
            begins[r] = v;
        }
        return fine;
    }

    boolean watch(int signal) {
        boolean fine = within(signal, signals());
        if (fine) {
            watching = signal;
        }
        return fine;
    }

    private boolean value(int signal, int state, int levels) {
        if (signal < 3) {
            return (levels & 1 << signal) != 0;
        }
        if (signal < 7) {
            return (state & 1 << signal - 3) != 0;
        }
        int[] gate = gates.get(signal - 7);
        boolean a = value(gate[1], state, levels);
        boolean b = value(gate[2], state, levels);
        if (gate[0] == 0) return a && b;
        if (gate[0] == 1) return a || b;
        if (gate[0] == 2) return a != b;
        if (gate[0] == 3) return !(a && b);
        if (gate[0] == 4) return !a && !b;
        if (gate[0] == 5) return a == b;
        if (gate[0] == 6) return !(a && !b);
        boolean c = value(gate[3], state, levels);
        if (gate[0] == 7) return a ? b : c;
        int ones = (a ? 1 : 0) + (b ? 1 : 0) + (c ? 1 : 0);
        return gate[0] == 8 ? ones >= 2 : ones == 1 || ones == 3;
    }

    private int begun() {
        return begins[0] + 2 * begins[1] + 4 * begins[2] + 8 * begins[3];
    }

    private boolean shows(int state) {
        for (int levels = 0; levels < 8; levels++) {
            if (value(watching, state, levels)) {
                return true;
            }
        }
        return false;
    }

    /** Every reached state with its least number of cycles, by a queue. */
    private Map<Integer, Integer> distances() {
        Map<Integer, Integer> found = new TreeMap<>();
        ArrayDeque<Integer> queue = new ArrayDeque<>();
        found.put(begun(), 0);
        queue.add(begun());
        while (!queue.isEmpty()) {
            int state = queue.remove();
            for (int levels = 0; levels < 8; levels++) {
                int after = step(state, levels);
                if (!found.containsKey(after)) {
                    found.put(after, found.get(state) + 1);
                    queue.add(after);
                }
            }
        }
        return found;
    }

    private int least() {
        int least = -3;
        for (Map.Entry<Integer, Integer> entry : distances().entrySet()) {
            if (shows(entry.getKey()) && (least == -3 || entry.getValue() < least)) {
                least = entry.getValue();
            }
        }
        return least;
    }

    boolean ever(int engine) {
        return within(engine, 4) && least() != -3;
    }

    boolean agree(int engine, int other) {
        return within(engine, 4) && within(other, 4);
    }

    int depth(int engine) {
        return within(engine, 2) ? least() : -1;
    }

    int input(int k) {
        int d = least();
        if (d == -3) {
            return -3;
        }
        return within(k, d + 1) ? witness(d)[k] : -1;
    }

    /**
     * For every state the least list of so many levels that ends in a 1, built from the end: the
     * lists of one level first, then each a level longer in front of the least of what follows.
     */
    private int[] witness(int d) {
        int[][] lists = new int[16][];
        for (int length = 1; length <= d + 1; length++) {
            int[][] longer = new int[16][];
            for (int state = 0; state < 16; state++) {
                for (int levels = 7; levels >= 0; levels--) {
                    int[] rest = length == 1
                        ? (value(watching, state, levels) ? new int[0] : null)
                        : lists[step(state, levels)];
                    longer[state] = lesser(longer[state], inFront(levels, rest));
                }
            }
            lists = longer;
        }
        return lists[begun()];
    }

    private int[] inFront(int levels, int[] rest) {
        if (rest == null) {
            return null;
        }
        int[] list = new int[rest.length + 1];
        list[0] = levels;
        System.arraycopy(rest, 0, list, 1, rest.length);
        return list;
    }

    private int[] lesser(int[] one, int[] other) {
        if (one == null || other == null) {
            return one == null ? other : one;
        }
        return Arrays.compare(one, other) <= 0 ? one : other;
    }

    private boolean has(int state, int ones, int zeros) {
        return (state & ones) != 0 || ((15 - state) & zeros) != 0;
    }

    boolean holds(int ones, int zeros) {
        if (!within(ones, 16) || !within(zeros, 16)) {
            return false;
        }
        return distances().keySet().stream().allMatch(state -> has(state, ones, zeros));
    }

    boolean keeps(int ones, int zeros) {
        if (!within(ones, 16) || !within(zeros, 16) || !has(begun(), ones, zeros)) {
            return false;
        }
        for (int state = 0; state < 16; state++) {
            for (int levels = 0; levels < 8; levels++) {
                if (has(state, ones, zeros) && !has(step(state, levels), ones, zeros)) {
                    return false;
                }
            }
        }
        return true;
    }

    int reached() {
        return distances().keySet().stream().mapToInt(state -> 1 << state).sum();
    }

    int far(int state) {
        return within(state, 16) ? distances().getOrDefault(state, -3) : -1;
    }

    int step(int state, int levels) {
        if (!within(state, 16) || !within(levels, 8)) {
            return -1;
        }
        int after = 0;
        for (int r = 0; r < 4; r++) {
            after += value(nexts[r], state, levels) ? 1 << r : 0;
        }
        return after;
    }

    int watched(int state, int levels) {
        if (!within(state, 16) || !within(levels, 8)) {
            return -1;
        }
        return value(watching, state, levels) ? 1 : 0;
    }
}
