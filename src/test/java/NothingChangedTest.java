import java.util.ArrayList;
import java.util.List;
import java.util.function.Function;
import java.util.function.Supplier;
import java.util.function.ToIntFunction;

/**
 * Promise 18, and every "changing nothing": after a refused call an object shows in all that later
 * calls can show the same as its twin, made alike but without that call. So it is with a question.
 */
public final class NothingChangedTest {
    private static final int BAD = -1;
    private static final int FULL = -2;
    private static final int NONE = -3;
    private static final int NO = 0;
    private static final Checker CHECK = new Checker();

    // What later calls show does not fit into the calls of one object, so each part has a new one.
    private static final List<Function<StateSearcher, List<Integer>>> PARTS = List.of(
        NothingChangedTest::showSteps, NothingChangedTest::showAnswers, NothingChangedTest::showGates,
        NothingChangedTest::showDrops, NothingChangedTest::showNewGates);

    public static void main(String[] args) {
        gate();
        CHECK.run("3: drop, there is no gate", () -> refused("drop()", x -> x.drop(), BAD, bare()));
        next();
        begin();
        watch();
        engines();
        statesAndSets();
        CHECK.run("18: a refused call after another", NothingChangedTest::refusedInARow);
        CHECK.run("18: questions that are answered", NothingChangedTest::questions);
        CHECK.end("NothingChangedTest");
    }

    /** No gates; the last signal, 6, is a next and is watched, as the last gate would be. */
    private static Supplier<StateSearcher> bare() {
        return () -> {
            StateSearcher x = new StateSearcher();
            x.next(0, 6);
            x.next(1, 0);
            x.next(2, 1);
            x.begin(2, 1);
            x.begin(3, 1);
            x.watch(6);
            return x;
        };
    }

    private static Supplier<StateSearcher> withFiveGates() {
        return () -> {
            StateSearcher x = new StateSearcher();
            x.gate(3, 0, 3, 0);
            x.gate(7, 4, 7, 1);
            x.gate(6, 8, 5, 0);
            x.gate(9, 9, 6, 2);
            x.gate(4, 10, 3, 0);
            x.next(0, 11);
            x.next(1, 7);
            x.next(3, 9);
            x.begin(1, 1);
            x.watch(11);
            return x;
        };
    }

    private static Supplier<StateSearcher> withTwelveGates() {
        return () -> {
            StateSearcher x = withFiveGates().get();
            for (int kind = 0; kind < 7; kind++) {
                x.gate(kind, 11 + kind, 3 + kind % 4, 0);
            }
            x.next(2, 18);
            x.watch(18);
            return x;
        };
    }

    /** Watches a register that stays 0. */
    private static Supplier<StateSearcher> never() {
        return () -> {
            StateSearcher x = withFiveGates().get();
            x.watch(5);
            return x;
        };
    }

    private static void refused(String what, ToIntFunction<StateSearcher> call, int answer, Supplier<StateSearcher> made) {
        for (Function<StateSearcher, List<Integer>> part : PARTS) {
            StateSearcher x = made.get();
            CHECK.due(what, call.applyAsInt(x), answer);
            List<Integer> want = part.apply(made.get());
            List<Integer> got = part.apply(x);
            CHECK.due(what + " changed nothing", got.equals(want), true);
        }
    }

    private static void refusedByAll(String what, ToIntFunction<StateSearcher> call, int answer) {
        refused(what + ", no gates", call, answer, bare());
        refused(what + ", five gates", call, answer, withFiveGates());
        refused(what + ", twelve gates", call, answer, withTwelveGates());
    }

    private static int[] wrongSignals() {
        return Circuits.outside(0, 18);
    }

    private static void gate() {
        CHECK.run("2: gate, BAD kind", () -> {
            for (int kind : Circuits.outside(0, 9)) {
                refusedByAll("kind " + kind, x -> x.gate(kind, 0, 1, 2), BAD);
            }
        });
        CHECK.run("2: gate, BAD a", () -> {
            for (int a : wrongSignals()) {
                refusedByAll("a is " + a, x -> x.gate(1, a, 1, 2), BAD);
            }
        });
        CHECK.run("2: gate, BAD b", () -> {
            for (int b : wrongSignals()) {
                refusedByAll("b is " + b, x -> x.gate(1, 0, b, 2), BAD);
            }
        });
        CHECK.run("2: gate, BAD c", () -> {
            for (int c : wrongSignals()) {
                refusedByAll("c is " + c, x -> x.gate(8, 0, 1, c), BAD);
            }
        });
        CHECK.run("2: gate, its own number", () -> {
            refused("a is 7", x -> x.gate(0, 7, 0, 0), BAD, bare());
            refused("b is 12", x -> x.gate(0, 0, 12, 0), BAD, withFiveGates());
            refused("c is 19", x -> x.gate(7, 0, 0, 19), BAD, withTwelveGates());
        });
        CHECK.run("2: gate, FULL", () -> {
            for (int each = 0; each <= 9; each++) {
                int kind = each;
                refused("thirteenth of kind " + kind, x -> x.gate(kind, 0, 1, 2), FULL, withTwelveGates());
                refused("thirteenth of 18, kind " + kind, x -> x.gate(kind, 18, 18, 18), FULL, withTwelveGates());
            }
        });
    }

    private static void next() {
        CHECK.run("5: next, r is not 0 .. 3", () -> {
            for (int r : Circuits.outside(0, 3)) {
                refusedByAll("next(" + r + ", 2)", x -> x.next(r, 2) ? 1 : 0, NO);
            }
        });
        CHECK.run("5: next, no such signal", () -> {
            for (int signal : wrongSignals()) {
                for (int each = 0; each < 4; each++) {
                    int r = each;
                    refusedByAll("next(" + r + ", " + signal + ")", x -> x.next(r, signal) ? 1 : 0, NO);
                }
            }
            refused("next(0, 7)", x -> x.next(0, 7) ? 1 : 0, NO, bare());
            refused("next(0, 12)", x -> x.next(0, 12) ? 1 : 0, NO, withFiveGates());
        });
    }

    private static void begin() {
        CHECK.run("6 and 18: begin, r is not 0 .. 3", () -> {
            for (int r : Circuits.outside(0, 3)) {
                refusedByAll("begin(" + r + ", 0)", x -> x.begin(r, 0) ? 1 : 0, NO);
                refusedByAll("begin(" + r + ", 1)", x -> x.begin(r, 1) ? 1 : 0, NO);
            }
        });
        CHECK.run("6 and 18: begin, v is not 0 or 1", () -> {
            for (int v : Circuits.outside(0, 1)) {
                for (int each = 0; each < 4; each++) {
                    int r = each;
                    refusedByAll("begin(" + r + ", " + v + ")", x -> x.begin(r, v) ? 1 : 0, NO);
                }
            }
        });
    }

    private static void watch() {
        CHECK.run("7: watch, no such signal", () -> {
            for (int signal : wrongSignals()) {
                refusedByAll("watch(" + signal + ")", x -> x.watch(signal) ? 1 : 0, NO);
            }
            refused("watch(7)", x -> x.watch(7) ? 1 : 0, NO, bare());
            refused("watch(12)", x -> x.watch(12) ? 1 : 0, NO, withFiveGates());
        });
    }

    private static void engines() {
        CHECK.run("8: ever, no such engine", () -> {
            for (int engine : Circuits.outside(0, 3)) {
                refusedByAll("ever(" + engine + ")", x -> x.ever(engine) ? 1 : 0, NO);
            }
        });
        CHECK.run("9: agree, one is none", () -> {
            for (int engine : Circuits.outside(0, 3)) {
                refusedByAll("agree(" + engine + ", 0)", x -> x.agree(engine, 0) ? 1 : 0, NO);
                refusedByAll("agree(3, " + engine + ")", x -> x.agree(3, engine) ? 1 : 0, NO);
            }
        });
        CHECK.run("10: depth, BAD", () -> {
            for (int engine : Circuits.outside(0, 1)) {
                refusedByAll("depth(" + engine + ")", x -> x.depth(engine), BAD);
            }
        });
        CHECK.run("10: depth, NONE", () -> refused("depth(1)", x -> x.depth(1), NONE, never()));
        CHECK.run("11: input, BAD", () -> {
            for (int k : Circuits.outside(0, 15)) {
                refusedByAll("input(" + k + ")", x -> x.input(k), BAD);
            }
        });
        CHECK.run("11: input, NONE", () -> refused("input(0)", x -> x.input(0), NONE, never()));
    }

    private static void statesAndSets() {
        CHECK.run("12: holds, a wrong set", () -> {
            for (int set : Circuits.outside(0, 15)) {
                refusedByAll("holds(" + set + ", 15)", x -> x.holds(set, 15) ? 1 : 0, NO);
                refusedByAll("holds(15, " + set + ")", x -> x.holds(15, set) ? 1 : 0, NO);
            }
        });
        CHECK.run("13: keeps, a wrong set", () -> {
            for (int set : Circuits.outside(0, 15)) {
                refusedByAll("keeps(" + set + ", 15)", x -> x.keeps(set, 15) ? 1 : 0, NO);
                refusedByAll("keeps(15, " + set + ")", x -> x.keeps(15, set) ? 1 : 0, NO);
            }
        });
        CHECK.run("15: far, BAD", () -> {
            for (int state : Circuits.outside(0, 15)) {
                refusedByAll("far(" + state + ")", x -> x.far(state), BAD);
            }
        });
        CHECK.run("15: far, NONE", () -> {
            refused("far(0)", x -> x.far(0), NONE, bare());
            refused("far(4)", x -> x.far(4), NONE, withFiveGates());
        });
        CHECK.run("16: step, BAD", () -> {
            for (int number : Circuits.outside(0, 15)) {
                refusedByAll("step(" + number + ", 3)", x -> x.step(number, 3), BAD);
                refusedByAll("step(5, " + number + ")", x -> x.step(5, number), BAD);
            }
            refusedByAll("step(5, 8)", x -> x.step(5, 8), BAD);
        });
        CHECK.run("17: watched, BAD", () -> {
            for (int number : Circuits.outside(0, 15)) {
                refusedByAll("watched(" + number + ", 3)", x -> x.watched(number, 3), BAD);
                refusedByAll("watched(5, " + number + ")", x -> x.watched(5, number), BAD);
            }
            refusedByAll("watched(5, 8)", x -> x.watched(5, 8), BAD);
        });
    }

    private static void refusedInARow() {
        refusedByAll("all in a row", x -> {
            int accepted = 0;
            for (int wrong : wrongSignals()) {
                accepted += x.gate(wrong, 0, 0, 0) + 1;
                accepted += x.gate(0, wrong, 0, 0) + 1;
                accepted += x.next(wrong, 0) ? 1 : 0;
                accepted += x.next(0, wrong) ? 1 : 0;
                accepted += x.begin(wrong, 1) ? 1 : 0;
                accepted += x.begin(0, wrong) ? 1 : 0;
                accepted += x.watch(wrong) ? 1 : 0;
            }
            return accepted;
        }, 0);
    }

    private static void questions() {
        asked("signals()", x -> x.signals());
        for (int each = 0; each < 4; each++) {
            int engine = each;
            asked("ever(" + engine + ")", x -> x.ever(engine) ? 1 : 0);
            asked("agree(0, " + engine + ")", x -> x.agree(0, engine) ? 1 : 0);
            asked("depth(" + engine + ")", x -> x.depth(engine));
        }
        asked("input(0)", x -> x.input(0));
        asked("holds(3, 12)", x -> x.holds(3, 12) ? 1 : 0);
        asked("keeps(15, 15)", x -> x.keeps(15, 15) ? 1 : 0);
        asked("reached()", x -> x.reached());
        asked("far(15)", x -> x.far(15));
        asked("step(15, 7)", x -> x.step(15, 7));
        asked("watched(15, 7)", x -> x.watched(15, 7));
    }

    /** Its answer is whatever a new object answers: here only what it leaves behind counts. */
    private static void asked(String what, ToIntFunction<StateSearcher> call) {
        for (Supplier<StateSearcher> made : List.of(bare(), withFiveGates(), withTwelveGates(), never())) {
            refused(what, call, call.applyAsInt(made.get()), made);
        }
    }

    private static List<Integer> showSteps(StateSearcher x) {
        List<Integer> shown = new ArrayList<>();
        for (int state = 0; state < 16; state++) {
            for (int levels = 0; levels < 8; levels++) {
                shown.add(x.step(state, levels));
                shown.add(x.watched(state, levels));
            }
        }
        return shown;
    }

    private static List<Integer> showAnswers(StateSearcher x) {
        List<Integer> shown = new ArrayList<>();
        shown.add(x.signals());
        shown.add(x.reached());
        for (int engine = 0; engine < 4; engine++) {
            shown.add(x.ever(engine) ? 1 : 0);
            shown.add(x.agree(engine, 0) ? 1 : 0);
            shown.add(x.depth(engine));
        }
        for (int n = 0; n < 17; n++) {
            shown.add(x.far(n));
            shown.add(x.input(n));
            shown.add(x.holds(n, 15 - n) ? 1 : 0);
            shown.add(x.keeps(n, 0) ? 1 : 0);
            shown.add(x.keeps(0, n) ? 1 : 0);
        }
        return shown;
    }

    private static List<Integer> showGates(StateSearcher x) {
        List<Integer> shown = new ArrayList<>();
        for (int signal = 0; signal < 19; signal++) {
            shown.add(x.watch(signal) ? 1 : 0);
            for (int levels = 0; levels < 8; levels++) {
                shown.add(x.watched(4, levels));
                shown.add(x.watched(11, levels));
            }
        }
        return shown;
    }

    private static List<Integer> showDrops(StateSearcher x) {
        List<Integer> shown = new ArrayList<>();
        for (int left = 18; left >= 6; left--) {
            shown.add(x.drop());
            shown.add(x.signals());
            for (int state = 0; state < 16; state += 5) {
                shown.add(x.step(state, state & 7));
                shown.add(x.step(state, 7 - (state & 7)));
                shown.add(x.watched(state, state & 7));
                shown.add(x.watched(state, 7 - (state & 7)));
            }
            shown.add(x.reached());
        }
        return shown;
    }

    private static List<Integer> showNewGates(StateSearcher x) {
        List<Integer> shown = new ArrayList<>();
        for (int count = 0; count < 13; count++) {
            int made = x.gate(count % 10, count % 7, 6 - count % 7, 2);
            shown.add(made);
            shown.add(x.watch(made) ? 1 : 0);
            for (int levels = 0; levels < 8; levels++) {
                shown.add(x.watched(5, levels));
            }
        }
        return shown;
    }
}
