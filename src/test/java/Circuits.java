/** Circuits that tests begin with, and arguments at the edges of a range. */
final class Circuits {
    private Circuits() {
    }

    /**
     * What is just outside on both sides, the least and the greatest int, and numbers that a shift, a
     * mask or a cast to a shorter type would wrap back inside.
     */
    static int[] outside(int low, int high) {
        return new int[] {
            low - 1, high + 1, Integer.MIN_VALUE, Integer.MAX_VALUE,
            low + 32, high + 32, high - 32, low + 256, low + 65536, Integer.MIN_VALUE + high,
        };
    }

    /** Counts up from 0 with every cycle; the last gate, 13, is watched and is 1 in state 15 alone. */
    static StateSearcher counter() {
        StateSearcher x = new StateSearcher();
        x.gate(4, 3, 3, 0);
        x.gate(2, 3, 4, 0);
        x.gate(0, 3, 4, 0);
        x.gate(2, 5, 9, 0);
        x.gate(0, 9, 5, 0);
        x.gate(2, 6, 11, 0);
        x.gate(0, 11, 6, 0);
        x.next(0, 7);
        x.next(1, 8);
        x.next(2, 10);
        x.next(3, 12);
        x.watch(13);
        return x;
    }

    /** Shifts input 0 into register 0, that into register 1 and so on. */
    static StateSearcher shifter() {
        StateSearcher x = new StateSearcher();
        x.next(0, 0);
        x.next(1, 3);
        x.next(2, 4);
        x.next(3, 5);
        return x;
    }

    /** Reaches 1, 3, 7 and 15, in this order. */
    static StateSearcher filler() {
        StateSearcher x = shifter();
        x.next(0, 3);
        x.begin(0, 1);
        return x;
    }

    /** So many gates, each 1 when inputs 0 and 1 differ. */
    static StateSearcher withGates(int count) {
        StateSearcher x = new StateSearcher();
        for (int i = 0; i < count; i++) {
            x.gate(2, 0, 1, 0);
        }
        return x;
    }

    /** Stays in one state for ever; signal 0 is watched. */
    static StateSearcher staying(int state) {
        StateSearcher x = new StateSearcher();
        begin(x, state);
        return x;
    }

    /** Watches register 0, which stays 0: no bad state is ever reached. */
    static StateSearcher never() {
        StateSearcher x = new StateSearcher();
        x.watch(3);
        return x;
    }

    /** Signal 8 is 1 with levels 7 alone. */
    static StateSearcher allLevelsGate() {
        StateSearcher x = new StateSearcher();
        x.gate(0, 0, 1, 0);
        x.gate(0, 7, 2, 0);
        return x;
    }

    /** Signal 8 is 1 with levels 0 alone. */
    static StateSearcher noLevelsGate() {
        StateSearcher x = new StateSearcher();
        x.gate(1, 0, 1, 0);
        x.gate(4, 7, 2, 0);
        return x;
    }

    static void begin(StateSearcher x, int state) {
        for (int r = 0; r < 4; r++) {
            x.begin(r, (state >> r) & 1);
        }
    }
}
