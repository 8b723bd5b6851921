/** The edges of promises 1 to 7 and of the terms under them: a test for each sentence that names one. */
public final class ChangeEdgesTest {
    private static final int BAD = -1;
    private static final int FULL = -2;
    private static final int[] GATE_COUNTS = {0, 1, 5, 11};
    // Bit a + 2 * b of a row is the value of a gate of that kind, from the document's table.
    private static final int[] KINDS_OF_TWO = {0x8, 0xE, 0x6, 0x7, 0x1, 0x9, 0xD};
    private static final Checker CHECK = new Checker();

    public static void main(String[] args) {
        terms();
        newObject();
        gate();
        drop();
        CHECK.run("4: signals, from none to twelve gates", ChangeEdgesTest::signalsFromNoneToTwelve);
        setters();
        CHECK.end("ChangeEdgesTest");
    }

    private static void terms() {
        CHECK.run("Face: BAD, FULL and NONE", ChangeEdgesTest::constants);
        CHECK.run("Terms: 0, 1 and 2 are the inputs", ChangeEdgesTest::inputs);
        CHECK.run("Terms: 3 .. 6 are the registers 0 .. 3", ChangeEdgesTest::registers);
        CHECK.run("Terms: made of signals with lower numbers", ChangeEdgesTest::lowerNumbers);
        CHECK.run("Terms: next is at first the register itself", ChangeEdgesTest::nextAtFirst);
        CHECK.run("Terms: a register begins at first with 0", ChangeEdgesTest::beginsAtFirst);
        CHECK.run("Terms: watched is at first signal 0", ChangeEdgesTest::watchedAtFirst);
    }

    private static void newObject() {
        CHECK.run("1: no gates, signals", () -> CHECK.due("signals()", new StateSearcher().signals(), 7));
        CHECK.run("1: no gates, drop", () -> CHECK.due("drop()", new StateSearcher().drop(), BAD));
        CHECK.run("1: no gates, signal 7", ChangeEdgesTest::newHasNoSignal7);
        CHECK.run("1: objects have nothing in common", ChangeEdgesTest::newIsApart);
    }

    private static void gate() {
        CHECK.run("2: answers the next number, 7 to 18", ChangeEdgesTest::gateNumbers);
        CHECK.run("2: BAD when kind is not 0 .. 9", ChangeEdgesTest::kindOutside);
        CHECK.run("2: BAD when a is no signal", ChangeEdgesTest::aOutside);
        CHECK.run("2: BAD when b is no signal", ChangeEdgesTest::bOutside);
        CHECK.run("2: BAD when c is no signal, kinds 7 to 9", ChangeEdgesTest::cOutside);
        CHECK.run("2: c is not tested, kinds 0 to 6", ChangeEdgesTest::cFree);
        CHECK.run("2: FULL when there are twelve gates", ChangeEdgesTest::thirteenth);
        CHECK.run("2: room again after a drop, for one", ChangeEdgesTest::roomAgain);
        CHECK.run("2: BAD kind is tested before FULL", ChangeEdgesTest::kindBeforeFull);
        CHECK.run("2: BAD a is tested before FULL", ChangeEdgesTest::aBeforeFull);
        CHECK.run("2: BAD b is tested before FULL", ChangeEdgesTest::bBeforeFull);
        CHECK.run("2: BAD c is tested before FULL, kinds 7 to 9", ChangeEdgesTest::cBeforeFull);
        CHECK.run("2: c is not tested before FULL, kinds 0 to 6", ChangeEdgesTest::cFreeBeforeFull);
    }

    private static void drop() {
        CHECK.run("3: answers how many are left, 18 to 7", ChangeEdgesTest::dropCounts);
        CHECK.run("3: a register whose next it was has itself", ChangeEdgesTest::dropOfNext);
        CHECK.run("3: all four registers whose next it was", ChangeEdgesTest::dropOfAllNexts);
        CHECK.run("3: a register whose next is another keeps it", ChangeEdgesTest::dropOfOtherThanNext);
        CHECK.run("3: signal 0 is watched when it was", ChangeEdgesTest::dropOfWatched);
        CHECK.run("3: another signal stays watched", ChangeEdgesTest::dropOfOtherThanWatched);
        CHECK.run("3: it is a next and watched at once", ChangeEdgesTest::dropOfNextAndWatched);
        CHECK.run("3: it is no signal any more", ChangeEdgesTest::dropTakesTheSignalAway);
        CHECK.run("3: a new gate with its number is another one", ChangeEdgesTest::dropIsForGood);
        CHECK.run("3: the beginnings stay", ChangeEdgesTest::dropLeavesBeginnings);
        CHECK.run("3: BAD when there is no gate", ChangeEdgesTest::dropOfNone);
    }

    private static void setters() {
        CHECK.run("5: r is 0 .. 3", ChangeEdgesTest::nextRegisterInside);
        CHECK.run("5: false when r is not 0 .. 3", ChangeEdgesTest::nextRegisterOutside);
        CHECK.run("5: the first and the last signal", ChangeEdgesTest::nextSignalInside);
        CHECK.run("5: false when there is no such signal", ChangeEdgesTest::nextSignalOutside);
        CHECK.run("5: false when both are wrong", ChangeEdgesTest::nextBothOutside);
        CHECK.run("6: r is 0 .. 3, v is 0 or 1", ChangeEdgesTest::beginInside);
        CHECK.run("6: false when r is not 0 .. 3", ChangeEdgesTest::beginRegisterOutside);
        CHECK.run("6: false when v is not 0 or 1", ChangeEdgesTest::beginValueOutside);
        CHECK.run("6: false when both are wrong", ChangeEdgesTest::beginBothOutside);
        CHECK.run("7: the first and the last signal", ChangeEdgesTest::watchInside);
        CHECK.run("7: false when there is no such signal", ChangeEdgesTest::watchOutside);
    }

    private static void constants() {
        CHECK.due("BAD", StateSearcher.BAD, -1);
        CHECK.due("FULL", StateSearcher.FULL, -2);
        CHECK.due("NONE", StateSearcher.NONE, -3);
    }

    private static void inputs() {
        StateSearcher x = new StateSearcher();
        for (int i = 0; i < 3; i++) {
            x.watch(i);
            CHECK.due("input " + i + " alone", x.watched(0, 1 << i), 1);
            CHECK.due("all but input " + i, x.watched(15, 7 - (1 << i)), 0);
        }
    }

    private static void registers() {
        StateSearcher x = new StateSearcher();
        for (int r = 0; r < 4; r++) {
            x.watch(3 + r);
            CHECK.due("register " + r + " alone", x.watched(1 << r, 0), 1);
            CHECK.due("all but register " + r, x.watched(15 - (1 << r), 7), 0);
        }
    }

    private static void lowerNumbers() {
        for (int count = 0; count < 12; count++) {
            StateSearcher x = Circuits.withGates(count);
            int own = 7 + count;
            CHECK.due("a is its own number " + own, x.gate(0, own, 0, 0), BAD);
            CHECK.due("b is its own number " + own, x.gate(0, 0, own, 0), BAD);
            CHECK.due("c is its own number " + own, x.gate(7, 0, 0, own), BAD);
            CHECK.due("all are one less than " + own, x.gate(7, own - 1, own - 1, own - 1), own);
        }
    }

    private static void nextAtFirst() {
        StateSearcher x = new StateSearcher();
        for (int state = 0; state < 16; state++) {
            CHECK.due("step of " + state + " with 0", x.step(state, 0), state);
            CHECK.due("step of " + state + " with 7", x.step(state, 7), state);
        }
    }

    private static void beginsAtFirst() {
        StateSearcher x = new StateSearcher();
        CHECK.due("reached()", x.reached(), 1);
        CHECK.due("far(0)", x.far(0), 0);
    }

    private static void watchedAtFirst() {
        StateSearcher x = new StateSearcher();
        CHECK.due("signal 0 alone", x.watched(0, 1), 1);
        CHECK.due("all but signal 0", x.watched(15, 6), 0);
    }

    private static void newHasNoSignal7() {
        CHECK.due("next(0, 7)", new StateSearcher().next(0, 7), false);
        CHECK.due("watch(7)", new StateSearcher().watch(7), false);
        CHECK.due("gate(0, 7, 0, 0)", new StateSearcher().gate(0, 7, 0, 0), BAD);
    }

    private static void newIsApart() {
        StateSearcher changed = Circuits.withGates(3);
        StateSearcher other = new StateSearcher();
        changed.next(0, 0);
        changed.begin(1, 1);
        changed.watch(2);
        CHECK.due("signals()", other.signals(), 7);
        CHECK.due("step(0, 1)", other.step(0, 1), 0);
        CHECK.due("reached()", other.reached(), 1);
        CHECK.due("watched(0, 1)", other.watched(0, 1), 1);
    }

    private static void gateNumbers() {
        StateSearcher x = new StateSearcher();
        for (int number = 7; number <= 18; number++) {
            CHECK.due("gate", x.gate(0, 0, 0, 0), number);
        }
    }

    private static void kindOutside() {
        CHECK.each("kind", Circuits.outside(0, 9), kind -> new StateSearcher().gate(kind, 0, 0, 0), BAD);
        for (int kind = 0; kind <= 9; kind++) {
            CHECK.due("kind " + kind, new StateSearcher().gate(kind, 0, 0, 0), 7);
        }
    }

    private static void aOutside() {
        for (int count : GATE_COUNTS) {
            for (int each = 0; each <= 9; each++) {
                int kind = each;
                StateSearcher x = Circuits.withGates(count);
                CHECK.each("a, kind " + kind, Circuits.outside(0, 6 + count), a -> x.gate(kind, a, 0, 0), BAD);
                CHECK.due("a is 0", Circuits.withGates(count).gate(kind, 0, 1, 1), 7 + count);
                CHECK.due("a is the last", Circuits.withGates(count).gate(kind, 6 + count, 0, 0), 7 + count);
            }
        }
    }

    private static void bOutside() {
        for (int count : GATE_COUNTS) {
            for (int each = 0; each <= 9; each++) {
                int kind = each;
                StateSearcher x = Circuits.withGates(count);
                CHECK.each("b, kind " + kind, Circuits.outside(0, 6 + count), b -> x.gate(kind, 0, b, 0), BAD);
                CHECK.due("b is 0", Circuits.withGates(count).gate(kind, 1, 0, 1), 7 + count);
                CHECK.due("b is the last", Circuits.withGates(count).gate(kind, 0, 6 + count, 0), 7 + count);
            }
        }
    }

    private static void cOutside() {
        for (int count : GATE_COUNTS) {
            for (int each = 7; each <= 9; each++) {
                int kind = each;
                StateSearcher x = Circuits.withGates(count);
                CHECK.each("c, kind " + kind, Circuits.outside(0, 6 + count), c -> x.gate(kind, 0, 0, c), BAD);
                CHECK.due("c is 0", Circuits.withGates(count).gate(kind, 1, 1, 0), 7 + count);
                CHECK.due("c is the last", Circuits.withGates(count).gate(kind, 0, 0, 6 + count), 7 + count);
            }
        }
    }

    private static void cFree() {
        for (int kind = 0; kind <= 6; kind++) {
            for (int c : Circuits.outside(0, 6)) {
                StateSearcher x = new StateSearcher();
                CHECK.due("kind " + kind + ", c " + c, x.gate(kind, 0, 1, c), 7);
                x.watch(7);
                for (int levels = 0; levels < 8; levels++) {
                    int want = (KINDS_OF_TWO[kind] >> (levels & 3)) & 1;
                    CHECK.due("value of kind " + kind + ", c " + c, x.watched(0, levels), want);
                }
            }
        }
    }

    private static void thirteenth() {
        for (int kind = 0; kind <= 9; kind++) {
            StateSearcher x = Circuits.withGates(11);
            CHECK.due("twelfth of kind " + kind, x.gate(kind, 0, 1, 2), 18);
            CHECK.due("thirteenth of kind " + kind, x.gate(kind, 0, 1, 2), FULL);
            CHECK.due("once more", x.gate(kind, 0, 1, 2), FULL);
            CHECK.due("signals()", x.signals(), 19);
        }
    }

    private static void roomAgain() {
        StateSearcher x = Circuits.withGates(12);
        x.drop();
        CHECK.due("after a drop", x.gate(0, 0, 0, 0), 18);
        CHECK.due("and then", x.gate(0, 0, 0, 0), FULL);
    }

    private static void kindBeforeFull() {
        StateSearcher x = Circuits.withGates(12);
        CHECK.each("kind", Circuits.outside(0, 9), kind -> x.gate(kind, 0, 0, 0), BAD);
        CHECK.due("kind 0", x.gate(0, 0, 0, 0), FULL);
        CHECK.due("kind 9", x.gate(9, 0, 0, 0), FULL);
    }

    private static void aBeforeFull() {
        StateSearcher x = Circuits.withGates(12);
        CHECK.each("a", Circuits.outside(0, 18), a -> x.gate(0, a, 0, 0), BAD);
        CHECK.each("a, kind 9", Circuits.outside(0, 18), a -> x.gate(9, a, 0, 0), BAD);
        CHECK.due("a is 18", x.gate(0, 18, 0, 0), FULL);
    }

    private static void bBeforeFull() {
        StateSearcher x = Circuits.withGates(12);
        CHECK.each("b", Circuits.outside(0, 18), b -> x.gate(0, 0, b, 0), BAD);
        CHECK.each("b, kind 9", Circuits.outside(0, 18), b -> x.gate(9, 0, b, 0), BAD);
        CHECK.due("b is 18", x.gate(0, 0, 18, 0), FULL);
    }

    private static void cBeforeFull() {
        StateSearcher x = Circuits.withGates(12);
        for (int each = 7; each <= 9; each++) {
            int kind = each;
            CHECK.each("c, kind " + kind, Circuits.outside(0, 18), c -> x.gate(kind, 0, 0, c), BAD);
            CHECK.due("c is 18", x.gate(kind, 0, 0, 18), FULL);
        }
    }

    private static void cFreeBeforeFull() {
        StateSearcher x = Circuits.withGates(12);
        for (int each = 0; each <= 6; each++) {
            int kind = each;
            CHECK.each("c, kind " + kind, Circuits.outside(0, 18), c -> x.gate(kind, 0, 0, c), FULL);
        }
    }

    private static void dropCounts() {
        StateSearcher x = Circuits.withGates(12);
        for (int left = 18; left >= 7; left--) {
            CHECK.due("drop()", x.drop(), left);
            CHECK.due("signals()", x.signals(), left);
        }
    }

    private static void dropOfNext() {
        for (int r = 0; r < 4; r++) {
            StateSearcher x = Circuits.withGates(2);
            x.next(r, 8);
            x.drop();
            for (int state = 0; state < 16; state++) {
                CHECK.due("register " + r + ", the gate was 1", x.step(state, 1), state);
                CHECK.due("register " + r + ", the gate was 0", x.step(state, 0), state);
            }
        }
    }

    private static void dropOfAllNexts() {
        StateSearcher x = Circuits.withGates(12);
        for (int r = 0; r < 4; r++) {
            x.next(r, 18);
        }
        x.drop();
        for (int state = 0; state < 16; state++) {
            CHECK.due("step(" + state + ", 1)", x.step(state, 1), state);
            CHECK.due("step(" + state + ", 0)", x.step(state, 0), state);
        }
    }

    private static void dropOfOtherThanNext() {
        StateSearcher x = Circuits.withGates(2);
        x.next(0, 7);
        x.next(1, 6);
        x.next(2, 0);
        x.next(3, 8);
        x.drop();
        CHECK.due("the gate before it", x.step(0, 2), 1);
        CHECK.due("another register", x.step(8, 0), 8 + 2);
        CHECK.due("an input, and the gate before it", x.step(0, 1), 4 + 1);
        x.drop();
        CHECK.due("the last register as a next", x.step(8, 0), 8 + 2);
        CHECK.due("an input as a next", x.step(0, 1), 4);
    }

    private static void dropOfWatched() {
        for (int count = 1; count <= 12; count++) {
            StateSearcher x = new StateSearcher();
            for (int i = 0; i < count; i++) {
                x.gate(4, 0, 0, 0);
            }
            x.watch(6 + count);
            x.drop();
            CHECK.due("signal 0 is 1", x.watched(0, 1), 1);
            CHECK.due("signal 0 is 0", x.watched(15, 6), 0);
        }
    }

    private static void dropOfOtherThanWatched() {
        StateSearcher x = Circuits.withGates(2);
        x.watch(7);
        x.drop();
        CHECK.due("the gate before it", x.watched(0, 2), 1);
        CHECK.due("the gate before it is 0", x.watched(0, 3), 0);
        x.watch(6);
        x.drop();
        CHECK.due("the last register", x.watched(8, 0), 1);
        CHECK.due("the last register is 0", x.watched(7, 7), 0);
    }

    private static void dropOfNextAndWatched() {
        StateSearcher x = Circuits.withGates(1);
        x.next(2, 7);
        x.watch(7);
        CHECK.due("drop()", x.drop(), 7);
        CHECK.due("register 2 is its own next", x.step(4, 0), 4);
        CHECK.due("register 2 is its own next, 0", x.step(0, 1), 0);
        CHECK.due("signal 0 is watched", x.watched(0, 1), 1);
        CHECK.due("signal 0 is watched, 0", x.watched(0, 2), 0);
    }

    private static void dropTakesTheSignalAway() {
        StateSearcher x = Circuits.withGates(12);
        for (int gone = 18; gone >= 7; gone--) {
            x.drop();
            CHECK.due("next, " + gone, x.next(0, gone), false);
            CHECK.due("watch, " + gone, x.watch(gone), false);
            CHECK.due("gate of " + gone, x.gate(0, gone, 0, 0), BAD);
        }
    }

    private static void dropIsForGood() {
        StateSearcher x = Circuits.withGates(1);
        x.next(0, 7);
        x.watch(7);
        x.drop();
        CHECK.due("gate", x.gate(1, 1, 1, 0), 7);
        CHECK.due("next is not the new gate", x.step(0, 2), 0);
        CHECK.due("the new gate is not watched", x.watched(0, 2), 0);
        x.watch(7);
        CHECK.due("the new gate is what it was made as", x.watched(0, 3), 1);
    }

    private static void dropLeavesBeginnings() {
        StateSearcher x = Circuits.withGates(1);
        Circuits.begin(x, 15);
        for (int r = 0; r < 4; r++) {
            x.next(r, 7);
        }
        x.drop();
        CHECK.due("reached()", x.reached(), 1 << 15);
    }

    private static void dropOfNone() {
        CHECK.due("a new object", new StateSearcher().drop(), BAD);
        StateSearcher x = Circuits.withGates(12);
        for (int i = 0; i < 12; i++) {
            x.drop();
        }
        CHECK.due("after twelve drops", x.drop(), BAD);
        CHECK.due("once more", x.drop(), BAD);
        CHECK.due("signals()", x.signals(), 7);
        CHECK.due("gate", x.gate(0, 0, 0, 0), 7);
        CHECK.due("drop of that", x.drop(), 7);
        CHECK.due("none again", x.drop(), BAD);
    }

    private static void signalsFromNoneToTwelve() {
        for (int count = 0; count <= 12; count++) {
            CHECK.due(count + " gates", Circuits.withGates(count).signals(), 7 + count);
        }
        CHECK.due("a thirteenth was refused", Circuits.withGates(13).signals(), 19);
    }

    private static void nextRegisterInside() {
        for (int r = 0; r <= 3; r++) {
            StateSearcher x = new StateSearcher();
            CHECK.due("r is " + r, x.next(r, 0), true);
            CHECK.due("it becomes 1, r is " + r, x.step(0, 1), 1 << r);
            CHECK.due("it becomes 0, r is " + r, x.step(15, 6), 15 - (1 << r));
        }
    }

    private static void nextRegisterOutside() {
        StateSearcher x = Circuits.withGates(12);
        CHECK.each("r", Circuits.outside(0, 3), r -> x.next(r, 0), false);
        CHECK.each("r, last signal", Circuits.outside(0, 3), r -> x.next(r, 18), false);
    }

    private static void nextSignalInside() {
        for (int count = 0; count <= 12; count++) {
            StateSearcher x = Circuits.withGates(count);
            CHECK.due("the last, " + count + " gates", x.next(0, 6 + count), true);
            CHECK.due("the last is 1", x.step(8, 1), 8 + 1);
            CHECK.due("the last is 0", x.step(1, 0), 0);
            CHECK.due("signal 0", x.next(0, 0), true);
            CHECK.due("signal 0 is 1", x.step(0, 3), 1);
            CHECK.due("signal 0 is 0", x.step(9, 2), 8);
        }
    }

    private static void nextSignalOutside() {
        for (int count = 0; count <= 12; count++) {
            StateSearcher x = Circuits.withGates(count);
            CHECK.each("signal", Circuits.outside(0, 6 + count), signal -> x.next(0, signal), false);
            CHECK.each("signal, register 3", Circuits.outside(0, 6 + count), signal -> x.next(3, signal), false);
        }
    }

    private static void nextBothOutside() {
        StateSearcher x = new StateSearcher();
        CHECK.each("both", new int[] {-1, 7, Integer.MIN_VALUE, Integer.MAX_VALUE}, both -> x.next(both, both), false);
        CHECK.due("next(4, 7)", x.next(4, 7), false);
    }

    private static void beginInside() {
        for (int r = 0; r <= 3; r++) {
            StateSearcher x = new StateSearcher();
            CHECK.due("1, r is " + r, x.begin(r, 1), true);
            CHECK.due("begun with 1", x.reached(), 1 << (1 << r));
            CHECK.due("0, r is " + r, x.begin(r, 0), true);
            CHECK.due("begun with 0", x.reached(), 1);
            Circuits.begin(x, 15);
            CHECK.due("0 among ones, r is " + r, x.begin(r, 0), true);
            CHECK.due("begun with 0 among ones", x.reached(), 1 << (15 - (1 << r)));
        }
    }

    private static void beginRegisterOutside() {
        StateSearcher x = new StateSearcher();
        CHECK.each("r, 0", Circuits.outside(0, 3), r -> x.begin(r, 0), false);
        CHECK.each("r, 1", Circuits.outside(0, 3), r -> x.begin(r, 1), false);
    }

    private static void beginValueOutside() {
        StateSearcher x = new StateSearcher();
        for (int each = 0; each <= 3; each++) {
            int r = each;
            CHECK.each("v, r is " + r, Circuits.outside(0, 1), v -> x.begin(r, v), false);
        }
    }

    private static void beginBothOutside() {
        StateSearcher x = new StateSearcher();
        CHECK.each("both", Circuits.outside(0, 3), both -> x.begin(both, both), false);
        CHECK.due("begin(4, 2)", x.begin(4, 2), false);
    }

    private static void watchInside() {
        for (int count = 0; count <= 12; count++) {
            StateSearcher x = Circuits.withGates(count);
            CHECK.due("the last, " + count + " gates", x.watch(6 + count), true);
            CHECK.due("the last is 1", x.watched(8, 2), 1);
            CHECK.due("the last is 0", x.watched(7, 3), 0);
            CHECK.due("signal 0", x.watch(0), true);
            CHECK.due("signal 0 is 1", x.watched(0, 3), 1);
            CHECK.due("signal 0 is 0", x.watched(8, 2), 0);
        }
    }

    private static void watchOutside() {
        for (int count = 0; count <= 12; count++) {
            StateSearcher x = Circuits.withGates(count);
            CHECK.each("signal", Circuits.outside(0, 6 + count), signal -> x.watch(signal), false);
        }
    }
}
