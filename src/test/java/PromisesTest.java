/** What each promise says of ordinary inputs; the edges and the wrong inputs have tests of their own. */
public final class PromisesTest {
    private static final int NONE = -3;
    private static final Checker CHECK = new Checker();

    public static void main(String[] args) {
        CHECK.run("1: a new object", PromisesTest::newObject);
        CHECK.run("2: gate, the ten kinds", PromisesTest::gateKinds);
        CHECK.run("2: gate, made of gates", PromisesTest::gateOfGates);
        CHECK.run("3: drop", PromisesTest::drop);
        CHECK.run("4: signals", PromisesTest::signals);
        CHECK.run("5: next", PromisesTest::next);
        CHECK.run("6: begin", PromisesTest::begin);
        CHECK.run("7: watch", PromisesTest::watch);
        CHECK.run("8: ever", PromisesTest::ever);
        CHECK.run("9: agree", PromisesTest::agree);
        CHECK.run("10: depth", PromisesTest::depth);
        CHECK.run("11: input", PromisesTest::input);
        CHECK.run("11: input, the least list", PromisesTest::inputIsLeastList);
        CHECK.run("12: holds", PromisesTest::holds);
        CHECK.run("13: keeps", PromisesTest::keeps);
        CHECK.run("14: reached", PromisesTest::reached);
        CHECK.run("15: far", PromisesTest::far);
        CHECK.run("16: step", PromisesTest::step);
        CHECK.run("17: watched", PromisesTest::watched);
        CHECK.end("PromisesTest");
    }

    private static void newObject() {
        StateSearcher x = new StateSearcher();
        for (int state = 0; state < 16; state++) {
            for (int levels = 0; levels < 8; levels++) {
                CHECK.due("step(" + state + ", " + levels + ")", x.step(state, levels), state);
                CHECK.due("watched(" + state + ", " + levels + ")", x.watched(state, levels), levels & 1);
            }
        }
    }

    private static void gateKinds() {
        // Bit a + 2 * b + 4 * c of a row is the gate's value, written down from the document's table.
        int[] tables = {0x88, 0xEE, 0x66, 0x77, 0x11, 0x99, 0xDD, 0xD8, 0xE8, 0x96};
        for (int kind = 0; kind < tables.length; kind++) {
            StateSearcher x = new StateSearcher();
            x.gate(kind, 0, 1, 2);
            x.watch(7);
            for (int levels = 0; levels < 8; levels++) {
                CHECK.due("kind " + kind + " with " + levels, x.watched(0, levels), (tables[kind] >> levels) & 1);
            }
        }
    }

    private static void gateOfGates() {
        StateSearcher x = new StateSearcher();
        CHECK.due("0 when input 0 is 1 and register 0 is 0", x.gate(6, 0, 3, 0), 7);
        CHECK.due("the same as 7", x.gate(0, 7, 7, 0), 8);
        CHECK.due("the other than 8", x.gate(3, 8, 8, 0), 9);
        CHECK.due("the same as 9", x.gate(9, 9, 9, 9), 10);
        x.watch(10);
        CHECK.due("7 is 0", x.watched(0, 1), 1);
        CHECK.due("7 is 1, both are 1", x.watched(1, 1), 0);
        CHECK.due("7 is 1, input 0 is 0", x.watched(0, 6), 0);
    }

    private static void drop() {
        StateSearcher x = new StateSearcher();
        x.gate(3, 0, 0, 0);
        x.gate(4, 3, 3, 0);
        for (int r = 0; r < 4; r++) {
            x.next(r, r % 2 == 0 ? 8 : 7);
        }
        x.watch(8);
        CHECK.due("before", x.step(0, 0), 15);
        CHECK.due("drop()", x.drop(), 8);
        CHECK.due("nexts of the dropped one alone", x.step(0, 0), 10);
        CHECK.due("they are the registers themselves", x.step(5, 1), 5);
        CHECK.due("signal 0 is watched", x.watched(0, 1), 1);
    }

    private static void signals() {
        StateSearcher x = new StateSearcher();
        x.gate(0, 0, 0, 0);
        CHECK.due("one gate", x.signals(), 8);
        x.gate(0, 7, 0, 0);
        CHECK.due("two gates", x.signals(), 9);
        x.drop();
        CHECK.due("one again", x.signals(), 8);
    }

    private static void next() {
        StateSearcher x = new StateSearcher();
        for (int r = 0; r < 4; r++) {
            CHECK.due("next", x.next(r, 3 + (r + 1) % 4), true);
        }
        CHECK.due("turned, 1", x.step(1, 0), 8);
        CHECK.due("turned, 8", x.step(8, 0), 4);
        CHECK.due("input", x.next(3, 2), true);
        CHECK.due("input followed", x.step(0, 4), 8);
        x.gate(3, 0, 0, 0);
        CHECK.due("gate", x.next(2, 7), true);
        CHECK.due("gate followed", x.step(0, 0), 4);
    }

    private static void begin() {
        StateSearcher x = new StateSearcher();
        for (int r = 0; r < 4; r++) {
            CHECK.due("begin", x.begin(r, 1), true);
            CHECK.due("begun", x.reached(), 1 << ((2 << r) - 1));
        }
        CHECK.due("again 1", x.begin(2, 1), true);
        CHECK.due("nothing to change", x.reached(), 1 << 15);
        CHECK.due("back to 0", x.begin(1, 0), true);
        CHECK.due("register 1 is 0", x.reached(), 1 << 13);
    }

    private static void watch() {
        StateSearcher x = new StateSearcher();
        for (int signal = 0; signal < 7; signal++) {
            CHECK.due("watch", x.watch(signal), true);
            for (int bit = 0; bit < 7; bit++) {
                CHECK.due("value", x.watched((1 << bit) >> 3, (1 << bit) & 7), bit == signal ? 1 : 0);
            }
        }
    }

    private static void ever() {
        StateSearcher hit = Circuits.counter();
        StateSearcher half = Circuits.counter();
        half.next(3, 6);
        for (int engine = 0; engine < 4; engine++) {
            CHECK.due("after 15 cycles", hit.ever(engine), true);
            CHECK.due("never", half.ever(engine), false);
        }
        half.begin(3, 1);
        hit.watch(3);
        hit.next(0, 3);
        for (int engine = 0; engine < 4; engine++) {
            CHECK.due("another beginning", half.ever(engine), true);
            CHECK.due("another next and another watched", hit.ever(engine), false);
        }
    }

    private static void agree() {
        CHECK.due("both true", Circuits.filler().agree(1, 2), true);
        CHECK.due("both false", Circuits.never().agree(2, 3), true);
    }

    private static void depth() {
        StateSearcher x = Circuits.counter();
        x.begin(3, 1);
        x.begin(0, 1);
        CHECK.due("engine 0", x.depth(0), 6);
        CHECK.due("engine 1", x.depth(1), 6);
        StateSearcher shifter = Circuits.shifter();
        shifter.watch(5);
        CHECK.due("shifted, engine 0", shifter.depth(0), 3);
        CHECK.due("shifted, engine 1", shifter.depth(1), 3);
    }

    private static void input() {
        StateSearcher shifter = Circuits.shifter();
        shifter.watch(6);
        int[] list = {1, 0, 0, 0, 0};
        for (int k = 0; k < list.length; k++) {
            CHECK.due("shifted", shifter.input(k), list[k]);
        }
        StateSearcher levels = new StateSearcher();
        levels.watch(2);
        CHECK.due("least that shows", levels.input(0), 4);
    }

    /** The least first levels reach the goal too, but a cycle later: they are not on a witness. */
    private static void inputIsLeastList() {
        StateSearcher x = new StateSearcher();
        x.gate(1, 1, 3, 0);
        x.gate(0, 3, 2, 0);
        x.gate(0, 4, 0, 0);
        x.next(0, 7);
        x.next(1, 8);
        x.watch(9);
        CHECK.due("depth", x.depth(0), 2);
        CHECK.due("first", x.input(0), 2);
        CHECK.due("second", x.input(1), 4);
        CHECK.due("last", x.input(2), 1);
    }

    private static void holds() {
        StateSearcher x = Circuits.filler();
        CHECK.due("a one", x.holds(1, 0), true);
        CHECK.due("not a one", x.holds(2, 0), false);
        CHECK.due("a zero, not at the end", x.holds(0, 8), false);
        CHECK.due("one or zero", x.holds(2, 4), true);
        CHECK.due("one or zero the other way round", x.holds(4, 2), false);
        CHECK.due("register 2 or not register 3", x.holds(4, 8), true);
    }

    private static void keeps() {
        StateSearcher x = Circuits.filler();
        CHECK.due("kept", x.keeps(1, 0), true);
        CHECK.due("not at the beginning", x.keeps(2, 0), false);
        CHECK.due("holds but is not kept of every state", x.keeps(4, 8), false);
        CHECK.due("register 0 or not register 1", x.keeps(1, 2), true);
        StateSearcher y = new StateSearcher();
        CHECK.due("a zero stays", y.keeps(0, 4), true);
        y.next(2, 2);
        CHECK.due("with input 2 it does not", y.keeps(0, 4), false);
    }

    private static void reached() {
        CHECK.due("all, by levels", Circuits.shifter().reached(), 65535);
        CHECK.due("some", Circuits.filler().reached(), 1 << 1 | 1 << 3 | 1 << 7 | 1 << 15);
    }

    private static void far() {
        CHECK.due("shortest of many", Circuits.shifter().far(10), 4);
        CHECK.due("one after the other", Circuits.filler().far(7), 2);
        CHECK.due("never", Circuits.filler().far(5), NONE);
    }

    private static void step() {
        StateSearcher x = Circuits.shifter();
        for (int state = 0; state < 16; state++) {
            for (int levels = 0; levels < 8; levels++) {
                CHECK.due("shifted", x.step(state, levels), (state << 1 & 15) | (levels & 1));
            }
            CHECK.due("counted", Circuits.counter().step(state, 5), (state + 1) & 15);
        }
    }

    private static void watched() {
        StateSearcher x = Circuits.counter();
        for (int state = 0; state < 16; state++) {
            CHECK.due("state " + state, x.watched(state, 7), state == 15 ? 1 : 0);
        }
    }
}
