/** One method for each promise of the document: ordinary inputs, named edges and wrong inputs. */
public final class PromisesTest {
    private static final int BAD = -1;
    private static final int FULL = -2;
    private static final int NONE = -3;
    private static final int LOWEST = Integer.MIN_VALUE;
    private static final int HIGHEST = Integer.MAX_VALUE;
    private static final Checker CHECK = new Checker();

    public static void main(String[] args) {
        newObject();
        gateKinds();
        gateOperands();
        gateRefusals();
        drop();
        signals();
        next();
        begin();
        watch();
        ever();
        agree();
        depth();
        input();
        inputIsLeastList();
        holds();
        keeps();
        reached();
        far();
        step();
        watched();
        refusalsChangeNothing();
        CHECK.end("PromisesTest");
    }

    /** Counts up from 0 with every cycle; the last gate, 13, is 1 in state 15 alone. */
    private static StateSearcher counter() {
        StateSearcher x = new StateSearcher();
        x.gate(4, 3, 3, 0);
        x.gate(2, 3, 4, 0);
        x.gate(0, 3, 4, 0);
        x.gate(2, 5, 9, 0);
        x.gate(0, 9, 5, 0);
        x.gate(2, 6, 11, 0);
        x.gate(0, 11, 6, 0);
        x.next(0, 7);
        x.next(1, 8);
        x.next(2, 10);
        x.next(3, 12);
        x.watch(13);
        return x;
    }

    /** Shifts input 0 into register 0, that into register 1 and so on. */
    private static StateSearcher shifter() {
        StateSearcher x = new StateSearcher();
        x.next(0, 0);
        x.next(1, 3);
        x.next(2, 4);
        x.next(3, 5);
        return x;
    }

    private static StateSearcher full() {
        StateSearcher x = new StateSearcher();
        for (int i = 0; i < 12; i++) {
            x.gate(2, 0, 1, 0);
        }
        return x;
    }

    private static void newObject() {
        CHECK.due("1: BAD", StateSearcher.BAD, BAD);
        CHECK.due("1: FULL", StateSearcher.FULL, FULL);
        CHECK.due("1: NONE", StateSearcher.NONE, NONE);
        StateSearcher x = new StateSearcher();
        CHECK.due("1: signals", x.signals(), 7);
        CHECK.due("1: drop", x.drop(), BAD);
        CHECK.due("1: begins with 0", x.reached(), 1);
        for (int state = 0; state < 16; state++) {
            for (int levels = 0; levels < 8; levels++) {
                CHECK.due("1: nexts are the registers themselves", x.step(state, levels), state);
                CHECK.due("1: signal 0 is watched", x.watched(state, levels), levels & 1);
            }
        }
        x.next(0, 0);
        CHECK.due("1: another object is not touched", new StateSearcher().step(0, 1), 0);
    }

    private static void gateKinds() {
        // Bit a + 2 * b + 4 * c of a row is the gate's value, written down from the document's table.
        int[] tables = {0x88, 0xEE, 0x66, 0x77, 0x11, 0x99, 0xDD, 0xD8, 0xE8, 0x96};
        for (int kind = 0; kind < tables.length; kind++) {
            StateSearcher x = new StateSearcher();
            CHECK.due("2: first gate", x.gate(kind, 0, 1, 2), 7);
            x.watch(7);
            for (int levels = 0; levels < 8; levels++) {
                CHECK.due("2: kind " + kind + " with " + levels, x.watched(0, levels), (tables[kind] >> levels) & 1);
            }
        }
    }

    private static void gateOperands() {
        StateSearcher x = new StateSearcher();
        CHECK.due("2: c is free for kind 6", x.gate(6, 0, 3, HIGHEST), 7);
        CHECK.due("2: c is free for kind 0", x.gate(0, 7, 7, -1), 8);
        CHECK.due("2: c is free for kind 3", x.gate(3, 8, 8, LOWEST), 9);
        CHECK.due("2: same signal thrice", x.gate(9, 9, 9, 9), 10);
        x.watch(10);
        CHECK.due("2: chain of gates, 6 is 0", x.watched(0, 1), 1);
        CHECK.due("2: chain of gates, 6 is 1", x.watched(1, 1), 0);
        CHECK.due("2: chain of gates, a is 0", x.watched(0, 6), 0);
    }

    private static void gateRefusals() {
        StateSearcher x = new StateSearcher();
        int[] wrongKinds = {-1, 10, LOWEST, HIGHEST};
        int[] wrongSignals = {-1, 7, 8, LOWEST, HIGHEST};
        for (int kind : wrongKinds) {
            CHECK.due("2: kind " + kind, x.gate(kind, 0, 0, 0), BAD);
        }
        for (int signal : wrongSignals) {
            for (int kind = 0; kind < 10; kind++) {
                CHECK.due("2: a is none", x.gate(kind, signal, 0, 0), BAD);
                CHECK.due("2: b is none", x.gate(kind, 0, signal, 0), BAD);
            }
            for (int kind = 7; kind < 10; kind++) {
                CHECK.due("2: c is none", x.gate(kind, 0, 0, signal), BAD);
            }
        }
        CHECK.due("2: refused gates add nothing", x.signals(), 7);
        StateSearcher y = new StateSearcher();
        for (int i = 0; i < 12; i++) {
            CHECK.due("2: gate " + i, y.gate(7, 6 + i, 6 + i, 6 + i), 7 + i);
        }
        CHECK.due("2: thirteenth", y.gate(0, 0, 0, 0), FULL);
        CHECK.due("2: thirteenth of signal 18", y.gate(9, 18, 18, 18), FULL);
        CHECK.due("2: BAD kind before FULL", y.gate(10, 0, 0, 0), BAD);
        CHECK.due("2: BAD a before FULL", y.gate(0, 19, 0, 0), BAD);
        CHECK.due("2: BAD b before FULL", y.gate(0, 0, -1, 0), BAD);
        CHECK.due("2: BAD c before FULL", y.gate(8, 0, 0, 19), BAD);
        CHECK.due("2: c is free, FULL", y.gate(0, 0, 0, 19), FULL);
        CHECK.due("2: still twelve", y.signals(), 19);
        y.drop();
        CHECK.due("2: room again", y.gate(0, 0, 0, 0), 18);
    }

    private static void drop() {
        StateSearcher x = new StateSearcher();
        x.gate(3, 0, 0, 0);
        x.gate(4, 3, 3, 0);
        for (int r = 0; r < 4; r++) {
            x.next(r, r % 2 == 0 ? 8 : 7);
        }
        x.watch(8);
        CHECK.due("3: before", x.step(0, 0), 15);
        CHECK.due("3: drop", x.drop(), 8);
        CHECK.due("3: nexts of the dropped one alone", x.step(0, 0), 10);
        CHECK.due("3: they are the registers themselves", x.step(5, 1), 5);
        CHECK.due("3: signal 0 is watched", x.watched(0, 1), 1);
        CHECK.due("3: signal 0 is watched, 0", x.watched(0, 0), 0);
        CHECK.due("3: gate again", x.gate(3, 3, 3, 0), 8);
        CHECK.due("3: nexts do not come back", x.step(0, 0), 10);
        CHECK.due("3: watch does not come back", x.watched(0, 0), 0);
        x.watch(7);
        CHECK.due("3: drop another than the watched", x.drop(), 8);
        CHECK.due("3: watched stays", x.watched(0, 0), 1);
        CHECK.due("3: last", x.drop(), 7);
        CHECK.due("3: all nexts are themselves", x.step(6, 0), 6);
        CHECK.due("3: none left", x.drop(), BAD);
        CHECK.due("3: none left, still", x.signals(), 7);
        CHECK.due("3: from full", full().drop(), 18);
    }

    private static void signals() {
        StateSearcher x = new StateSearcher();
        CHECK.due("4: none", x.signals(), 7);
        x.gate(0, 0, 0, 0);
        CHECK.due("4: one", x.signals(), 8);
        x.gate(0, 9, 0, 0);
        CHECK.due("4: refused", x.signals(), 8);
        x.drop();
        CHECK.due("4: dropped", x.signals(), 7);
        CHECK.due("4: full", full().signals(), 19);
    }

    private static void next() {
        StateSearcher x = new StateSearcher();
        for (int r = 0; r < 4; r++) {
            CHECK.due("5: next", x.next(r, 3 + (r + 1) % 4), true);
        }
        CHECK.due("5: turned", x.step(1, 0), 8);
        CHECK.due("5: turned, 8", x.step(8, 0), 4);
        CHECK.due("5: input", x.next(3, 2), true);
        CHECK.due("5: input followed", x.step(0, 4), 8);
        CHECK.due("5: no gate 7", x.next(3, 7), false);
        x.gate(3, 0, 0, 0);
        CHECK.due("5: gate 7", x.next(2, 7), true);
        CHECK.due("5: gate followed", x.step(0, 0), 4);
        int[] wrongSignals = {-1, 8, LOWEST, HIGHEST};
        for (int signal : wrongSignals) {
            CHECK.due("5: no signal", x.next(2, signal), false);
        }
        int[] wrongRegisters = {-1, 4, LOWEST, HIGHEST};
        for (int r : wrongRegisters) {
            CHECK.due("5: no register", x.next(r, 0), false);
        }
        CHECK.due("5: nothing changed", x.step(0, 0), 4);
        CHECK.due("5: last of a full one", full().next(0, 18), true);
        CHECK.due("5: past a full one", full().next(0, 19), false);
    }

    private static void begin() {
        StateSearcher x = new StateSearcher();
        for (int r = 0; r < 4; r++) {
            CHECK.due("6: begin", x.begin(r, 1), true);
            CHECK.due("6: begun", x.reached(), 1 << ((2 << r) - 1));
        }
        CHECK.due("6: again 1", x.begin(2, 1), true);
        CHECK.due("6: nothing to change", x.reached(), 1 << 15);
        CHECK.due("6: back to 0", x.begin(1, 0), true);
        CHECK.due("6: 1 is 0", x.reached(), 1 << 13);
        int[] wrongRegisters = {-1, 4, 32, LOWEST, HIGHEST};
        for (int r : wrongRegisters) {
            CHECK.due("6: no register", x.begin(r, 0), false);
            CHECK.due("6: no register, 1", x.begin(r, 1), false);
        }
        int[] wrongValues = {-1, 2, LOWEST, HIGHEST};
        for (int v : wrongValues) {
            CHECK.due("6: no value", x.begin(1, v), false);
            CHECK.due("6: no value, register 0", x.begin(0, v), false);
        }
        CHECK.due("6: nothing changed", x.reached(), 1 << 13);
    }

    private static void watch() {
        StateSearcher x = new StateSearcher();
        for (int signal = 0; signal < 7; signal++) {
            CHECK.due("7: watch", x.watch(signal), true);
            for (int bit = 0; bit < 7; bit++) {
                CHECK.due("7: value", x.watched((1 << bit) >> 3, (1 << bit) & 7), bit == signal ? 1 : 0);
            }
        }
        int[] wrongSignals = {-1, 7, LOWEST, HIGHEST};
        for (int signal : wrongSignals) {
            CHECK.due("7: no signal", x.watch(signal), false);
        }
        CHECK.due("7: nothing changed", x.watched(8, 0), 1);
        CHECK.due("7: last of a full one", full().watch(18), true);
        CHECK.due("7: past a full one", full().watch(19), false);
    }

    private static void ever() {
        StateSearcher hit = counter();
        StateSearcher never = counter();
        never.next(3, 6);
        for (int engine = 0; engine < 4; engine++) {
            CHECK.due("8: at the beginning", new StateSearcher().ever(engine), true);
            CHECK.due("8: after 15 cycles", hit.ever(engine), true);
            CHECK.due("8: never", never.ever(engine), false);
        }
        never.begin(3, 1);
        hit.watch(3);
        hit.next(0, 3);
        for (int engine = 0; engine < 4; engine++) {
            CHECK.due("8: another beginning", never.ever(engine), true);
            CHECK.due("8: a state that is not reached does not count", hit.ever(engine), false);
        }
        int[] wrongEngines = {-1, 4, LOWEST, HIGHEST};
        for (int engine : wrongEngines) {
            CHECK.due("8: no engine", new StateSearcher().ever(engine), false);
        }
    }

    private static void agree() {
        StateSearcher never = new StateSearcher();
        never.watch(3);
        for (int engine = -1; engine <= 4; engine++) {
            for (int other = -1; other <= 4; other++) {
                boolean both = engine >= 0 && engine < 4 && other >= 0 && other < 4;
                CHECK.due("9: agree", counter().agree(engine, other), both);
                CHECK.due("9: agree on never", never.agree(engine, other), both);
            }
        }
        CHECK.due("9: lowest", never.agree(LOWEST, LOWEST), false);
        CHECK.due("9: highest", never.agree(0, HIGHEST), false);
    }

    private static void depth() {
        StateSearcher x = counter();
        StateSearcher never = new StateSearcher();
        never.watch(6);
        for (int engine = 0; engine < 2; engine++) {
            CHECK.due("10: at the beginning", new StateSearcher().depth(engine), 0);
            CHECK.due("10: the deepest", x.depth(engine), 15);
            CHECK.due("10: never", never.depth(engine), NONE);
        }
        x.begin(3, 1);
        x.begin(0, 1);
        CHECK.due("10: nearer", x.depth(0), 6);
        CHECK.due("10: nearer, engine 1", x.depth(1), 6);
        int[] wrongEngines = {-1, 2, 3, 4, LOWEST, HIGHEST};
        for (int engine : wrongEngines) {
            CHECK.due("10: no such engine here", x.depth(engine), BAD);
            CHECK.due("10: tested before NONE", never.depth(engine), BAD);
        }
    }

    private static void input() {
        StateSearcher x = counter();
        for (int k = 0; k <= 15; k++) {
            CHECK.due("11: any levels do", x.input(k), 0);
        }
        CHECK.due("11: past the end", x.input(16), BAD);
        StateSearcher shifter = shifter();
        shifter.watch(6);
        int[] list = {1, 0, 0, 0, 0};
        for (int k = 0; k < list.length; k++) {
            CHECK.due("11: shifted", shifter.input(k), list[k]);
        }
        CHECK.due("11: past d", shifter.input(5), BAD);
        CHECK.due("11: before 0", shifter.input(-1), BAD);
        CHECK.due("11: lowest", shifter.input(LOWEST), BAD);
        CHECK.due("11: highest", shifter.input(HIGHEST), BAD);
        StateSearcher never = new StateSearcher();
        never.watch(3);
        int[] places = {0, 1, -1, LOWEST, HIGHEST};
        for (int k : places) {
            CHECK.due("11: NONE before BAD", never.input(k), NONE);
        }
        StateSearcher levels = new StateSearcher();
        levels.watch(2);
        CHECK.due("11: least that shows", levels.input(0), 4);
        CHECK.due("11: d is 0", levels.input(1), BAD);
    }

    /** The least first levels reach the goal too, but a cycle later: they are not on a witness. */
    private static void inputIsLeastList() {
        StateSearcher x = new StateSearcher();
        x.gate(1, 1, 3, 0);
        x.gate(0, 3, 2, 0);
        x.gate(0, 4, 0, 0);
        x.next(0, 7);
        x.next(1, 8);
        x.watch(9);
        CHECK.due("11: depth", x.depth(0), 2);
        CHECK.due("11: first", x.input(0), 2);
        CHECK.due("11: second", x.input(1), 4);
        CHECK.due("11: last", x.input(2), 1);
        // Two ways of one cycle: levels 1 lead to a state that needs 7, levels 2 to one that needs 0.
        StateSearcher y = new StateSearcher();
        y.gate(8, 0, 1, 2);
        y.gate(0, 7, 2, 0);
        y.gate(9, 0, 1, 2);
        y.gate(0, 8, 9, 0);
        y.gate(0, 10, 3, 0);
        y.gate(1, 11, 4, 0);
        y.next(0, 0);
        y.next(1, 1);
        y.watch(12);
        CHECK.due("11: two ways, depth", y.depth(1), 1);
        CHECK.due("11: two ways, first", y.input(0), 1);
        CHECK.due("11: two ways, last", y.input(1), 7);
    }

    private static void holds() {
        StateSearcher x = shifter();
        x.next(0, 3);
        x.begin(0, 1);
        // Reached are 1, 3, 7 and 15.
        CHECK.due("12: a one", x.holds(1, 0), true);
        CHECK.due("12: not a one", x.holds(2, 0), false);
        CHECK.due("12: a zero, not at the end", x.holds(0, 8), false);
        CHECK.due("12: one or zero", x.holds(2, 4), true);
        CHECK.due("12: one or zero the other way round", x.holds(4, 2), false);
        CHECK.due("12: register 2 or not register 3", x.holds(4, 8), true);
        CHECK.due("12: both of one register", x.holds(8, 8), true);
        CHECK.due("12: empty", x.holds(0, 0), false);
        CHECK.due("12: all", x.holds(15, 15), true);
        int[] wrongSets = {-1, 16, LOWEST, HIGHEST};
        for (int set : wrongSets) {
            CHECK.due("12: ones", x.holds(set, 15), false);
            CHECK.due("12: zeros", x.holds(15, set), false);
        }
    }

    private static void keeps() {
        StateSearcher x = shifter();
        x.next(0, 3);
        x.begin(0, 1);
        CHECK.due("13: kept", x.keeps(1, 0), true);
        CHECK.due("13: not at the beginning", x.keeps(2, 0), false);
        CHECK.due("13: holds but is not kept of every state", x.keeps(4, 8), false);
        CHECK.due("13: it holds", x.holds(4, 8), true);
        CHECK.due("13: register 0 or not register 1", x.keeps(1, 2), true);
        CHECK.due("13: all", x.keeps(15, 15), true);
        CHECK.due("13: empty", x.keeps(0, 0), false);
        StateSearcher y = new StateSearcher();
        CHECK.due("13: a zero stays", y.keeps(0, 4), true);
        CHECK.due("13: kept but not begun with", y.keeps(4, 0), false);
        y.next(2, 2);
        CHECK.due("13: with any levels", y.keeps(0, 4), false);
        int[] wrongSets = {-1, 16, LOWEST, HIGHEST};
        for (int set : wrongSets) {
            CHECK.due("13: ones", y.keeps(set, 15), false);
            CHECK.due("13: zeros", y.keeps(15, set), false);
        }
    }

    private static void reached() {
        CHECK.due("14: alone", new StateSearcher().reached(), 1);
        CHECK.due("14: all, one a cycle", counter().reached(), 65535);
        CHECK.due("14: all, by levels", shifter().reached(), 65535);
        StateSearcher x = shifter();
        x.next(0, 3);
        x.begin(0, 1);
        CHECK.due("14: some", x.reached(), 1 << 1 | 1 << 3 | 1 << 7 | 1 << 15);
    }

    private static void far() {
        StateSearcher x = counter();
        for (int state = 0; state < 16; state++) {
            CHECK.due("15: counted", x.far(state), state);
        }
        x.begin(3, 1);
        CHECK.due("15: begin", x.far(8), 0);
        CHECK.due("15: round", x.far(7), 15);
        CHECK.due("15: never", new StateSearcher().far(1), NONE);
        CHECK.due("15: shortest of many", shifter().far(10), 4);
        int[] wrongStates = {-1, 16, 32, LOWEST, HIGHEST};
        for (int state : wrongStates) {
            CHECK.due("15: no state", x.far(state), BAD);
        }
    }

    private static void step() {
        StateSearcher x = shifter();
        for (int state = 0; state < 16; state++) {
            for (int levels = 0; levels < 8; levels++) {
                CHECK.due("16: shift", x.step(state, levels), (state << 1 & 15) | (levels & 1));
            }
            CHECK.due("16: count", counter().step(state, 5), (state + 1) & 15);
        }
        int[] wrongNumbers = {-1, 16, LOWEST, HIGHEST};
        for (int number : wrongNumbers) {
            CHECK.due("16: no state", x.step(number, 0), BAD);
            CHECK.due("16: no levels", x.step(0, number), BAD);
        }
        CHECK.due("16: 8 is no levels", x.step(0, 8), BAD);
        CHECK.due("16: a step leads nowhere", x.far(0), 0);
    }

    private static void watched() {
        StateSearcher x = counter();
        for (int state = 0; state < 16; state++) {
            CHECK.due("17: last state alone", x.watched(state, 7), state == 15 ? 1 : 0);
        }
        int[] wrongNumbers = {-1, 16, LOWEST, HIGHEST};
        for (int number : wrongNumbers) {
            CHECK.due("17: no state", x.watched(number, 0), BAD);
            CHECK.due("17: no levels", x.watched(15, number), BAD);
        }
        CHECK.due("17: 8 is no levels", x.watched(15, 8), BAD);
    }

    private static void refusalsChangeNothing() {
        StateSearcher x = full();
        x.begin(1, 1);
        x.next(2, 18);
        x.watch(18);
        int[] wrongNumbers = {-1, 19, LOWEST, HIGHEST};
        for (int number : wrongNumbers) {
            x.gate(number, 0, 0, 0);
            x.gate(9, number, 0, 0);
            x.gate(9, 0, number, 0);
            x.gate(9, 0, 0, number);
            x.gate(0, 0, 0, number);
            x.next(number, 0);
            x.next(2, number);
            x.begin(number, 1);
            x.begin(1, number);
            x.watch(number);
            x.ever(number);
            x.agree(0, number);
            x.depth(number);
            x.input(number);
            x.holds(number, 0);
            x.keeps(0, number);
            x.far(number);
            x.step(number, 0);
            x.watched(0, number);
        }
        CHECK.due("18: begin(1, 2)", x.begin(1, 2), false);
        CHECK.due("18: begin(4, 0)", x.begin(4, 0), false);
        CHECK.due("18: signals", x.signals(), 19);
        CHECK.due("18: reached", x.reached(), 1 << 2 | 1 << 6);
        for (int levels = 0; levels < 8; levels++) {
            int differ = (levels ^ levels >> 1) & 1;
            CHECK.due("18: step", x.step(9, levels), 9 | differ << 2);
            CHECK.due("18: watched", x.watched(9, levels), differ);
        }
        StateSearcher empty = new StateSearcher();
        empty.watch(4);
        empty.next(1, 1);
        empty.drop();
        CHECK.due("18: refused drop, signals", empty.signals(), 7);
        CHECK.due("18: refused drop, step", empty.step(0, 2), 2);
        CHECK.due("18: refused drop, watched", empty.watched(2, 0), 1);
    }
}
