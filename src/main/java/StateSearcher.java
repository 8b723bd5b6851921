/** Finds out whether a signal of a circuit with registers can ever become 1, in four ways, and how. */
public final class StateSearcher {
    public static final int BAD = -1;
    public static final int FULL = -2;
    public static final int NONE = -3;

    private static final int INPUTS = 3;
    private static final int REGISTERS = 4;
    private static final int FIRST_GATE = 7;
    private static final int MOST_SIGNALS = 19;
    private static final int KINDS = 10;
    private static final int FIRST_KIND_OF_THREE = 7;
    private static final int STATES = 16;
    private static final int LEVELS = 8;
    private static final int SETS_OF_REGISTERS = 16;
    private static final int CLAUSES = 256;

    private static final int FORWARD = 0;
    private static final int BACKWARD = 1;
    private static final int CLOSURE = 2;
    private static final int ENGINES = 4;

    // The circuit. A gate's place in these arrays is its signal's number.
    private final int[] kinds = new int[MOST_SIGNALS];
    private final int[] firsts = new int[MOST_SIGNALS];
    private final int[] seconds = new int[MOST_SIGNALS];
    private final int[] thirds = new int[MOST_SIGNALS];
    private final int[] nexts = new int[REGISTERS];
    private int signalCount = FIRST_GATE;
    private int beginning = 0;
    private int watchedSignal = 0;

    // Room to work in: made anew by every question, so a change of the circuit leaves nothing stale.
    // A set of states is an int with bit s for state s.
    private final int[] values = new int[MOST_SIGNALS];
    private final int[] followers = new int[STATES];
    private final int[] paths = new int[STATES];
    private final boolean[] kept = new boolean[CLAUSES];
    private int badStates = 0;

    public StateSearcher() {
        for (int r = 0; r < REGISTERS; r++) {
            nexts[r] = INPUTS + r;
        }
    }

    public int gate(int kind, int a, int b, int c) {
        if (kind < 0 || kind >= KINDS || !isSignal(a) || !isSignal(b)) {
            return BAD;
        }
        boolean ofThree = kind >= FIRST_KIND_OF_THREE;
        if (ofThree && !isSignal(c)) {
            return BAD;
        }
        if (signalCount >= MOST_SIGNALS) {
            return FULL;
        }
        int made = signalCount;
        kinds[made] = kind;
        firsts[made] = a;
        seconds[made] = b;
        // A gate of two may come with any c, which must not be kept: it is used as an index later.
        thirds[made] = ofThree ? c : 0;
        signalCount++;
        return made;
    }

    public int drop() {
        if (signalCount <= FIRST_GATE) {
            return BAD;
        }
        signalCount--;
        for (int r = 0; r < REGISTERS; r++) {
            if (nexts[r] == signalCount) {
                nexts[r] = INPUTS + r;
            }
        }
        if (watchedSignal == signalCount) {
            watchedSignal = 0;
        }
        return signalCount;
    }

    public int signals() {
        return signalCount;
    }

    public boolean next(int r, int signal) {
        if (!isRegister(r) || !isSignal(signal)) {
            return false;
        }
        nexts[r] = signal;
        return true;
    }

    public boolean begin(int r, int v) {
        if (!isRegister(r) || v < 0 || v > 1) {
            return false;
        }
        beginning = (beginning & ~(1 << r)) | (v << r);
        return true;
    }

    public boolean watch(int signal) {
        if (!isSignal(signal)) {
            return false;
        }
        watchedSignal = signal;
        return true;
    }

    public boolean ever(int engine) {
        if (!isEngine(engine)) {
            return false;
        }
        tabulate();
        switch (engine) {
            case FORWARD:
                return cyclesUntil(badStates) != NONE;
            case BACKWARD:
                return cyclesToBad(beginning) != NONE;
            case CLOSURE:
                return everByClosure();
            default:
                return everByClauses();
        }
    }

    public boolean agree(int engine, int other) {
        if (!isEngine(engine) || !isEngine(other)) {
            return false;
        }
        return ever(engine) == ever(other);
    }

    public int depth(int engine) {
        if (engine != FORWARD && engine != BACKWARD) {
            return BAD;
        }
        tabulate();
        return engine == FORWARD ? cyclesUntil(badStates) : cyclesToBad(beginning);
    }

    public int input(int k) {
        int cycles = depth(FORWARD);
        if (cycles == NONE) {
            return NONE;
        }
        if (k < 0 || k > cycles) {
            return BAD;
        }
        int state = beginning;
        for (int at = 0; at < k; at++) {
            int levels = leastTowardsBad(state, cycles - at);
            state = stateAfter(state, levels);
        }
        return k == cycles ? leastThatShows(state) : leastTowardsBad(state, cycles - k);
    }

    public boolean holds(int ones, int zeros) {
        if (!isSetOfRegisters(ones) || !isSetOfRegisters(zeros)) {
            return false;
        }
        return (reached() & ~statesWith(ones, zeros)) == 0;
    }

    public boolean keeps(int ones, int zeros) {
        if (!isSetOfRegisters(ones) || !isSetOfRegisters(zeros)) {
            return false;
        }
        tabulate();
        int having = statesWith(ones, zeros);
        return contains(having, beginning) && (allFollowers(having) & ~having) == 0;
    }

    public int reached() {
        tabulate();
        int found = 1 << beginning;
        for (int cycles = 1; cycles < STATES; cycles++) {
            found |= allFollowers(found);
        }
        return found;
    }

    public int far(int state) {
        if (!isState(state)) {
            return BAD;
        }
        tabulate();
        return cyclesUntil(1 << state);
    }

    public int step(int state, int levels) {
        if (!isState(state) || !isLevels(levels)) {
            return BAD;
        }
        return stateAfter(state, levels);
    }

    public int watched(int state, int levels) {
        if (!isState(state) || !isLevels(levels)) {
            return BAD;
        }
        settle(state, levels);
        return values[watchedSignal];
    }

    private boolean isSignal(int signal) {
        return signal >= 0 && signal < signalCount;
    }

    private static boolean isRegister(int r) {
        return r >= 0 && r < REGISTERS;
    }

    private static boolean isEngine(int engine) {
        return engine >= 0 && engine < ENGINES;
    }

    private static boolean isState(int state) {
        return state >= 0 && state < STATES;
    }

    private static boolean isLevels(int levels) {
        return levels >= 0 && levels < LEVELS;
    }

    private static boolean isSetOfRegisters(int set) {
        return set >= 0 && set < SETS_OF_REGISTERS;
    }

    private static boolean contains(int states, int state) {
        return ((states >> state) & 1) == 1;
    }

    /** Gives every signal its value; one pass is enough because a gate is made of lower signals. */
    private void settle(int state, int levels) {
        for (int i = 0; i < INPUTS; i++) {
            values[i] = (levels >> i) & 1;
        }
        for (int r = 0; r < REGISTERS; r++) {
            values[INPUTS + r] = (state >> r) & 1;
        }
        for (int g = FIRST_GATE; g < signalCount; g++) {
            values[g] = gateValue(kinds[g], values[firsts[g]], values[seconds[g]], values[thirds[g]]);
        }
    }

    private static int gateValue(int kind, int a, int b, int c) {
        switch (kind) {
            case 0:
                return a & b;
            case 1:
                return a | b;
            case 2:
                return a ^ b;
            case 3:
                return 1 - (a & b);
            case 4:
                return 1 - (a | b);
            case 5:
                return 1 - (a ^ b);
            case 6:
                return (1 - a) | b;
            case 7:
                return a == 1 ? b : c;
            case 8:
                return a + b + c >= 2 ? 1 : 0;
            default:
                return a ^ b ^ c;
        }
    }

    private int stateAfter(int state, int levels) {
        settle(state, levels);
        int after = 0;
        for (int r = 0; r < REGISTERS; r++) {
            after |= values[nexts[r]] << r;
        }
        return after;
    }

    /** Notes the followers of every state, and which states show the watched signal as 1. */
    private void tabulate() {
        badStates = 0;
        for (int s = 0; s < STATES; s++) {
            followers[s] = 0;
            for (int levels = 0; levels < LEVELS; levels++) {
                int after = stateAfter(s, levels);
                followers[s] |= 1 << after;
                badStates |= values[watchedSignal] << s;
            }
        }
    }

    private int allFollowers(int states) {
        int found = 0;
        for (int s = 0; s < STATES; s++) {
            if (contains(states, s)) {
                found |= followers[s];
            }
        }
        return found;
    }

    private int allThatLeadInto(int states) {
        int found = 0;
        for (int s = 0; s < STATES; s++) {
            if ((followers[s] & states) != 0) {
                found |= 1 << s;
            }
        }
        return found;
    }

    /** Engine 0: forward from the beginning, a cycle at a time; a shortest way has no state twice. */
    private int cyclesUntil(int goal) {
        int found = 1 << beginning;
        for (int cycles = 0; cycles < STATES; cycles++) {
            if ((found & goal) != 0) {
                return cycles;
            }
            found |= allFollowers(found);
        }
        return NONE;
    }

    /** Engine 1: backward from the states that show the watched signal as 1, a cycle at a time. */
    private int cyclesToBad(int state) {
        int found = badStates;
        for (int cycles = 0; cycles < STATES; cycles++) {
            if (contains(found, state)) {
                return cycles;
            }
            found |= allThatLeadInto(found);
        }
        return NONE;
    }

    /** Engine 2: joins ways between all pairs of states at one middle state after the other. */
    private boolean everByClosure() {
        for (int s = 0; s < STATES; s++) {
            paths[s] = followers[s] | (1 << s);
        }
        for (int middle = 0; middle < STATES; middle++) {
            for (int s = 0; s < STATES; s++) {
                if (contains(paths[s], middle)) {
                    paths[s] |= paths[middle];
                }
            }
        }
        return (paths[beginning] & badStates) != 0;
    }

    /**
     * Engine 3: of all clauses (as those of holds) that are true at the beginning, strikes out those
     * that are not kept while the others are true. Since the clauses that shut out one single state
     * are among them, those that stay allow the reached states and no others.
     */
    private boolean everByClauses() {
        int allowed = 1 << beginning;
        for (int clause = 0; clause < CLAUSES; clause++) {
            kept[clause] = true;
        }
        // A round without a new state is the last one that matters, and only 15 can be new.
        for (int round = 0; round < STATES; round++) {
            int withFollowers = allowed | allFollowers(allowed);
            strikeOut(withFollowers);
            allowed = allowedByClauses();
        }
        return (allowed & badStates) != 0;
    }

    private void strikeOut(int states) {
        for (int clause = 0; clause < CLAUSES; clause++) {
            if ((states & ~statesWithClause(clause)) != 0) {
                kept[clause] = false;
            }
        }
    }

    private int allowedByClauses() {
        int allowed = (1 << STATES) - 1;
        for (int clause = 0; clause < CLAUSES; clause++) {
            if (kept[clause]) {
                allowed &= statesWithClause(clause);
            }
        }
        return allowed;
    }

    private static int statesWithClause(int clause) {
        return statesWith(clause % SETS_OF_REGISTERS, clause / SETS_OF_REGISTERS);
    }

    private static int statesWith(int ones, int zeros) {
        int found = 0;
        for (int s = 0; s < STATES; s++) {
            if ((s & ones) != 0 || (~s & zeros) != 0) {
                found |= 1 << s;
            }
        }
        return found;
    }

    /**
     * The least levels that lead a state that is so many cycles before a bad one a cycle nearer.
     * Taking the least each time gives the least list, as from every nearer state the rest exists.
     */
    private int leastTowardsBad(int state, int cycles) {
        for (int levels = 0; levels < LEVELS; levels++) {
            int after = stateAfter(state, levels);
            if (cyclesToBad(after) == cycles - 1) {
                return levels;
            }
        }
        return NONE;
    }

    private int leastThatShows(int state) {
        for (int levels = 0; levels < LEVELS; levels++) {
            settle(state, levels);
            if (values[watchedSignal] == 1) {
                return levels;
            }
        }
        return NONE;
    }
}
