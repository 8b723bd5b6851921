import java.util.function.ToIntFunction;

/** The edges of promises 8 to 17 and of the terms under them: a test for each sentence that names one. */
public final class QuestionEdgesTest {
    private static final int BAD = -1;
    private static final int NONE = -3;
    private static final int MOST_CALLS = 512;
    private static final Checker CHECK = new Checker();

    public static void main(String[] args) {
        terms();
        engines();
        input();
        sets();
        states();
        CHECK.run("What it is: the 512th call", QuestionEdgesTest::lastCall);
        CHECK.end("QuestionEdgesTest");
    }

    private static void terms() {
        CHECK.run("Terms: the beginning is reached after 0 cycles", QuestionEdgesTest::beginningIsReached);
        CHECK.run("Terms: what follows is reached a cycle later", QuestionEdgesTest::oneCycleMore);
        CHECK.run("Terms: follows with any levels, 7 alone", () -> followsWith(Circuits.allLevelsGate()));
        CHECK.run("Terms: follows with any levels, 0 alone", () -> followsWith(Circuits.noLevelsGate()));
        CHECK.run("Terms: bad with some levels, 7 alone", () -> badWith(Circuits.allLevelsGate()));
        CHECK.run("Terms: bad with some levels, 0 alone", () -> badWith(Circuits.noLevelsGate()));
        CHECK.run("Terms: a state that is not reached is not bad", QuestionEdgesTest::badIsReached);
        CHECK.run("Terms: no answer depends on the engine", QuestionEdgesTest::enginesAnswerAlike);
    }

    private static void engines() {
        CHECK.run("8: engines 0 .. 3", QuestionEdgesTest::everInside);
        CHECK.run("8: false when there is no such engine", QuestionEdgesTest::everOutside);
        CHECK.run("9: engines 0 .. 3", QuestionEdgesTest::agreeInside);
        CHECK.run("9: false when the first is none", QuestionEdgesTest::agreeFirstOutside);
        CHECK.run("9: false when the other is none", QuestionEdgesTest::agreeOtherOutside);
        CHECK.run("9: false when both are none", QuestionEdgesTest::agreeBothOutside);
        CHECK.run("10: no cycles", QuestionEdgesTest::depthOfNoCycles);
        CHECK.run("10: the most cycles", QuestionEdgesTest::depthOfMostCycles);
        CHECK.run("10: NONE when none ever is", QuestionEdgesTest::depthOfNever);
        CHECK.run("10: BAD when engine is not 0 or 1", QuestionEdgesTest::depthOutside);
        CHECK.run("10: BAD is tested first", QuestionEdgesTest::depthOutsideOfNever);
    }

    private static void input() {
        CHECK.run("11: NONE when no bad state is ever reached", QuestionEdgesTest::inputOfNever);
        CHECK.run("11: NONE is tested before BAD", QuestionEdgesTest::inputOutsideOfNever);
        CHECK.run("11: k is 0 .. d, d is 0", () -> inputRange(new StateSearcher(), 0));
        CHECK.run("11: k is 0 .. d, d is 4", () -> inputRange(shifterWatchingItsEnd(), 4));
        CHECK.run("11: k is 0 .. d, d is 15", () -> inputRange(Circuits.counter(), 15));
        CHECK.run("11: the least levels, 0, when any do", QuestionEdgesTest::inputOfLeastLevels);
        CHECK.run("11: the greatest levels, 7, when no others do", QuestionEdgesTest::inputOfGreatestLevels);
        CHECK.run("11: the first levels decide", QuestionEdgesTest::inputFirstDecides);
        CHECK.run("11: d + 1 levels, not more", QuestionEdgesTest::inputIsShortest);
    }

    private static void sets() {
        CHECK.run("12: false when ones is not 0 .. 15", () -> onesOutside(true));
        CHECK.run("12: false when zeros is not 0 .. 15", () -> zerosOutside(true));
        CHECK.run("12: false when both are wrong", () -> bothSetsOutside(true));
        CHECK.run("12: sets 0 and 15, and of one register", () -> setsInside(true));
        CHECK.run("12: every reached state, the first one", QuestionEdgesTest::holdsInTheFirst);
        CHECK.run("12: every reached state, the last one", QuestionEdgesTest::holdsInTheLast);
        CHECK.run("12: only reached states", QuestionEdgesTest::holdsInReachedOnly);
        CHECK.run("13: false when ones is not 0 .. 15", () -> onesOutside(false));
        CHECK.run("13: false when zeros is not 0 .. 15", () -> zerosOutside(false));
        CHECK.run("13: false when both are wrong", () -> bothSetsOutside(false));
        CHECK.run("13: sets 0 and 15, and of one register", () -> setsInside(false));
        CHECK.run("13: the beginning has it", QuestionEdgesTest::keepsFromTheBeginning);
        CHECK.run("13: every state at all, 15 alone", QuestionEdgesTest::keepsFromState15);
        CHECK.run("13: every state at all, 0 alone", QuestionEdgesTest::keepsFromState0);
        CHECK.run("13: all that follow, with levels 7 alone", () -> keepsWith(Circuits.allLevelsGate()));
        CHECK.run("13: all that follow, with levels 0 alone", () -> keepsWith(Circuits.noLevelsGate()));
        CHECK.run("13: states that do not have it do not count", QuestionEdgesTest::keepsOfThoseThatHaveIt);
    }

    private static void states() {
        CHECK.run("14: one state, 0 to 15", QuestionEdgesTest::reachedOne);
        CHECK.run("14: all states", QuestionEdgesTest::reachedAll);
        CHECK.run("15: no cycles", QuestionEdgesTest::farOfNoCycles);
        CHECK.run("15: the most cycles", QuestionEdgesTest::farOfMostCycles);
        CHECK.run("15: NONE when it never is", QuestionEdgesTest::farOfNever);
        CHECK.run("15: BAD when state is not 0 .. 15", QuestionEdgesTest::farOutside);
        CHECK.run("16: states 0 .. 15, levels 0 .. 7", QuestionEdgesTest::stepInside);
        CHECK.run("16: BAD when state is out of range", QuestionEdgesTest::stepStateOutside);
        CHECK.run("16: BAD when levels are out of range", QuestionEdgesTest::stepLevelsOutside);
        CHECK.run("16: BAD when both are out of range", QuestionEdgesTest::stepBothOutside);
        CHECK.run("17: states 0 .. 15, levels 0 .. 7", QuestionEdgesTest::watchedInside);
        CHECK.run("17: BAD when state is out of range", QuestionEdgesTest::watchedStateOutside);
        CHECK.run("17: BAD when levels are out of range", QuestionEdgesTest::watchedLevelsOutside);
        CHECK.run("17: BAD when both are out of range", QuestionEdgesTest::watchedBothOutside);
    }

    private static void beginningIsReached() {
        StateSearcher x = new StateSearcher();
        x.gate(2, 0, 0, 0);
        for (int r = 0; r < 4; r++) {
            x.next(r, 7);
        }
        Circuits.begin(x, 15);
        x.watch(6);
        // State 15 leads to 0, which stays: nothing leads back to the beginning.
        CHECK.due("reached()", x.reached(), 1 << 15 | 1);
        CHECK.due("far(15)", x.far(15), 0);
        CHECK.due("far(0)", x.far(0), 1);
        CHECK.due("depth(0)", x.depth(0), 0);
        CHECK.due("depth(1)", x.depth(1), 0);
        CHECK.due("holds(0, 8)", x.holds(0, 8), false);
    }

    private static void oneCycleMore() {
        StateSearcher x = Circuits.counter();
        for (int state = 0; state < 16; state++) {
            CHECK.due("far(" + state + ")", x.far(state), state);
        }
    }

    private static void followsWith(StateSearcher oneLevelsOnly) {
        oneLevelsOnly.next(0, 8);
        CHECK.due("reached()", oneLevelsOnly.reached(), 3);
        CHECK.due("far(1)", oneLevelsOnly.far(1), 1);
        CHECK.due("holds(0, 1)", oneLevelsOnly.holds(0, 1), false);
    }

    private static void badWith(StateSearcher oneLevelsOnly) {
        oneLevelsOnly.watch(8);
        for (int engine = 0; engine < 4; engine++) {
            CHECK.due("ever(" + engine + ")", oneLevelsOnly.ever(engine), true);
        }
        CHECK.due("depth(0)", oneLevelsOnly.depth(0), 0);
        CHECK.due("depth(1)", oneLevelsOnly.depth(1), 0);
        CHECK.due("watched is 1 with input(0)", oneLevelsOnly.watched(0, oneLevelsOnly.input(0)), 1);
    }

    private static void badIsReached() {
        StateSearcher x = Circuits.never();
        CHECK.due("watched in a state that is not reached", x.watched(1, 0), 1);
        for (int engine = 0; engine < 4; engine++) {
            CHECK.due("ever(" + engine + ")", x.ever(engine), false);
        }
        CHECK.due("depth(0)", x.depth(0), NONE);
        CHECK.due("depth(1)", x.depth(1), NONE);
        CHECK.due("input(0)", x.input(0), NONE);
    }

    /** From every beginning: 15 cycles away, nearer, at once, and never. */
    private static void enginesAnswerAlike() {
        for (int beginning = 0; beginning < 16; beginning++) {
            StateSearcher turning = Circuits.counter();
            StateSearcher still = Circuits.counter();
            Circuits.begin(turning, beginning);
            Circuits.begin(still, beginning);
            still.next(3, 6);
            for (int engine = 0; engine < 4; engine++) {
                CHECK.due("ever(" + engine + ") from " + beginning, turning.ever(engine), true);
                CHECK.due("ever(" + engine + ") in one half", still.ever(engine), beginning >= 8);
            }
            for (int engine = 0; engine < 2; engine++) {
                CHECK.due("depth(" + engine + ") from " + beginning, turning.depth(engine), 15 - beginning);
            }
        }
    }

    private static void everInside() {
        for (int engine = 0; engine <= 3; engine++) {
            CHECK.due("engine " + engine, new StateSearcher().ever(engine), true);
        }
    }

    private static void everOutside() {
        StateSearcher x = new StateSearcher();
        CHECK.each("engine", Circuits.outside(0, 3), engine -> x.ever(engine), false);
    }

    private static void agreeInside() {
        for (int engine = 0; engine <= 3; engine++) {
            for (int other = 0; other <= 3; other++) {
                String both = engine + " and " + other;
                CHECK.due("at once, " + both, new StateSearcher().agree(engine, other), true);
                CHECK.due("after 15 cycles, " + both, Circuits.counter().agree(engine, other), true);
                CHECK.due("never, " + both, Circuits.never().agree(engine, other), true);
            }
        }
    }

    // Where no bad state is reached, ever answers false for a wrong engine and for a right one alike.

    private static void agreeFirstOutside() {
        for (int each = 0; each <= 3; each++) {
            int other = each;
            StateSearcher x = new StateSearcher();
            StateSearcher never = Circuits.never();
            CHECK.each("first, " + other, Circuits.outside(0, 3), engine -> x.agree(engine, other), false);
            CHECK.each("never: first, " + other, Circuits.outside(0, 3), engine -> never.agree(engine, other), false);
        }
    }

    private static void agreeOtherOutside() {
        for (int each = 0; each <= 3; each++) {
            int first = each;
            StateSearcher x = new StateSearcher();
            StateSearcher never = Circuits.never();
            CHECK.each("other, " + first, Circuits.outside(0, 3), engine -> x.agree(first, engine), false);
            CHECK.each("never: other, " + first, Circuits.outside(0, 3), engine -> never.agree(first, engine), false);
        }
    }

    private static void agreeBothOutside() {
        StateSearcher x = new StateSearcher();
        StateSearcher never = Circuits.never();
        CHECK.each("both", Circuits.outside(0, 3), engine -> x.agree(engine, engine), false);
        CHECK.each("never: both", Circuits.outside(0, 3), engine -> never.agree(engine, engine), false);
        CHECK.due("agree(-1, 4)", x.agree(-1, 4), false);
        CHECK.due("agree(4, -1)", x.agree(4, -1), false);
    }

    private static void depthOfNoCycles() {
        CHECK.due("depth(0)", new StateSearcher().depth(0), 0);
        CHECK.due("depth(1)", new StateSearcher().depth(1), 0);
    }

    private static void depthOfMostCycles() {
        CHECK.due("depth(0)", Circuits.counter().depth(0), 15);
        CHECK.due("depth(1)", Circuits.counter().depth(1), 15);
    }

    private static void depthOfNever() {
        CHECK.due("depth(0)", Circuits.never().depth(0), NONE);
        CHECK.due("depth(1)", Circuits.never().depth(1), NONE);
    }

    private static void depthOutside() {
        StateSearcher x = new StateSearcher();
        CHECK.each("engine", Circuits.outside(0, 1), engine -> x.depth(engine), BAD);
        CHECK.due("engine 3", x.depth(3), BAD);
        CHECK.due("engine 4", x.depth(4), BAD);
    }

    private static void depthOutsideOfNever() {
        StateSearcher never = Circuits.never();
        CHECK.each("engine", Circuits.outside(0, 1), engine -> never.depth(engine), BAD);
        CHECK.due("engine 3", never.depth(3), BAD);
        CHECK.due("engine 4", never.depth(4), BAD);
    }

    private static void inputOfNever() {
        CHECK.due("input(0)", Circuits.never().input(0), NONE);
        CHECK.due("input(15)", Circuits.never().input(15), NONE);
    }

    private static void inputOutsideOfNever() {
        StateSearcher never = Circuits.never();
        CHECK.each("k", Circuits.outside(0, 15), k -> never.input(k), NONE);
    }

    private static StateSearcher shifterWatchingItsEnd() {
        StateSearcher x = Circuits.shifter();
        x.watch(6);
        return x;
    }

    private static void inputRange(StateSearcher x, int d) {
        CHECK.due("depth(0)", x.depth(0), d);
        CHECK.each("k", Circuits.outside(0, d), k -> x.input(k), BAD);
        for (int k = 0; k <= d; k++) {
            int levels = x.input(k);
            CHECK.due("input(" + k + ") is levels", levels >= 0 && levels <= 7, true);
        }
    }

    private static void inputOfLeastLevels() {
        StateSearcher x = Circuits.counter();
        for (int k = 0; k <= 15; k++) {
            CHECK.due("input(" + k + ")", x.input(k), 0);
        }
    }

    private static void inputOfGreatestLevels() {
        StateSearcher x = Circuits.allLevelsGate();
        x.gate(0, 8, 3, 0);
        x.next(0, 8);
        x.watch(9);
        CHECK.due("first", x.input(0), 7);
        CHECK.due("last", x.input(1), 7);
        CHECK.due("past the last", x.input(2), BAD);
    }

    /** Levels 1 lead to a state that shows the 1 with levels 7 alone, 2 to one that does with 0. */
    private static void inputFirstDecides() {
        StateSearcher x = Circuits.allLevelsGate();
        x.gate(0, 8, 3, 0);
        x.gate(1, 9, 4, 0);
        x.next(0, 0);
        x.next(1, 1);
        x.watch(10);
        CHECK.due("depth(0)", x.depth(0), 1);
        CHECK.due("first", x.input(0), 1);
        CHECK.due("last", x.input(1), 7);
    }

    /** A list that begins with 0 leads there too, but it has a levels more. */
    private static void inputIsShortest() {
        StateSearcher x = new StateSearcher();
        x.next(0, 2);
        x.watch(3);
        CHECK.due("first", x.input(0), 4);
        CHECK.due("last", x.input(1), 0);
        CHECK.due("past the last", x.input(2), BAD);
    }

    private static boolean asked(StateSearcher x, boolean holds, int ones, int zeros) {
        return holds ? x.holds(ones, zeros) : x.keeps(ones, zeros);
    }

    // In state 5 some register is 1 and some is 0, so a set 15 beside a wrong one would answer true.

    private static void onesOutside(boolean holds) {
        StateSearcher x = Circuits.staying(5);
        CHECK.each("ones", Circuits.outside(0, 15), ones -> asked(x, holds, ones, 15), false);
        CHECK.each("ones, no zeros", Circuits.outside(0, 15), ones -> asked(x, holds, ones, 0), false);
    }

    private static void zerosOutside(boolean holds) {
        StateSearcher x = Circuits.staying(5);
        CHECK.each("zeros", Circuits.outside(0, 15), zeros -> asked(x, holds, 15, zeros), false);
        CHECK.each("zeros, no ones", Circuits.outside(0, 15), zeros -> asked(x, holds, 0, zeros), false);
    }

    private static void bothSetsOutside(boolean holds) {
        StateSearcher x = Circuits.staying(5);
        CHECK.each("both", Circuits.outside(0, 15), both -> asked(x, holds, both, both), false);
    }

    private static void setsInside(boolean holds) {
        for (int state = 0; state < 16; state++) {
            StateSearcher x = Circuits.staying(state);
            String there = " in " + state;
            CHECK.due("(0, 0)" + there, asked(x, holds, 0, 0), false);
            CHECK.due("(15, 0)" + there, asked(x, holds, 15, 0), state != 0);
            CHECK.due("(0, 15)" + there, asked(x, holds, 0, 15), state != 15);
            CHECK.due("(15, 15)" + there, asked(x, holds, 15, 15), true);
            for (int r = 0; r < 4; r++) {
                boolean one = (state >> r & 1) == 1;
                CHECK.due("register " + r + " is 1" + there, asked(x, holds, 1 << r, 0), one);
                CHECK.due("register " + r + " is 0" + there, asked(x, holds, 0, 1 << r), !one);
                CHECK.due("register " + r + " is 1 or 0" + there, asked(x, holds, 1 << r, 1 << r), true);
            }
        }
    }

    private static void holdsInTheFirst() {
        CHECK.due("state 0 alone does not have it", Circuits.counter().holds(15, 0), false);
    }

    private static void holdsInTheLast() {
        CHECK.due("state 15 alone does not have it", Circuits.counter().holds(0, 15), false);
        StateSearcher x = Circuits.counter();
        Circuits.begin(x, 1);
        CHECK.due("state 0 is the last one", x.holds(15, 0), false);
    }

    private static void holdsInReachedOnly() {
        for (int state = 0; state < 16; state++) {
            StateSearcher x = Circuits.staying(state);
            for (int other = 0; other < 16; other++) {
                // These two sets shut out one single state.
                CHECK.due("not " + other + " in " + state, x.holds(15 - other, other), other != state);
            }
        }
    }

    private static void keepsFromTheBeginning() {
        CHECK.due("kept by every state that has it", Circuits.staying(4).keeps(4, 0), true);
        CHECK.due("but the beginning does not", Circuits.staying(0).keeps(4, 0), false);
        CHECK.due("a zero, but the beginning is 1", Circuits.staying(8).keeps(0, 8), false);
    }

    /** Register 0 becomes 0 after state 15 alone, which is not reached. */
    private static void keepsFromState15() {
        StateSearcher x = new StateSearcher();
        x.gate(0, 3, 4, 0);
        x.gate(0, 5, 6, 0);
        x.gate(3, 7, 8, 0);
        x.next(0, 9);
        x.begin(0, 1);
        CHECK.due("holds(1, 0)", x.holds(1, 0), true);
        CHECK.due("keeps(1, 0)", x.keeps(1, 0), false);
    }

    /** Register 0 becomes 1 after state 0 alone, which is not reached. */
    private static void keepsFromState0() {
        StateSearcher x = new StateSearcher();
        x.gate(1, 3, 4, 0);
        x.gate(1, 5, 6, 0);
        x.gate(4, 7, 8, 0);
        x.next(0, 9);
        x.begin(1, 1);
        CHECK.due("holds(0, 1)", x.holds(0, 1), true);
        CHECK.due("keeps(0, 1)", x.keeps(0, 1), false);
    }

    private static void keepsWith(StateSearcher oneLevelsOnly) {
        CHECK.due("before", oneLevelsOnly.keeps(0, 1), true);
        oneLevelsOnly.next(0, 8);
        CHECK.due("keeps(0, 1)", oneLevelsOnly.keeps(0, 1), false);
    }

    private static void keepsOfThoseThatHaveIt() {
        StateSearcher x = Circuits.filler();
        CHECK.due("state 0, without it, leads to one without it", x.step(0, 0), 0);
        CHECK.due("keeps(1, 0)", x.keeps(1, 0), true);
    }

    private static void reachedOne() {
        for (int state = 0; state < 16; state++) {
            CHECK.due("staying in " + state, Circuits.staying(state).reached(), 1 << state);
        }
    }

    private static void reachedAll() {
        for (int beginning = 0; beginning < 16; beginning++) {
            StateSearcher x = Circuits.counter();
            Circuits.begin(x, beginning);
            CHECK.due("counted from " + beginning, x.reached(), 65535);
        }
    }

    private static void farOfNoCycles() {
        for (int state = 0; state < 16; state++) {
            CHECK.due("staying in " + state, Circuits.staying(state).far(state), 0);
            StateSearcher x = Circuits.counter();
            Circuits.begin(x, state);
            CHECK.due("counted from " + state, x.far(state), 0);
        }
    }

    private static void farOfMostCycles() {
        for (int beginning = 0; beginning < 16; beginning++) {
            StateSearcher x = Circuits.counter();
            Circuits.begin(x, beginning);
            CHECK.due("counted from " + beginning, x.far((beginning + 15) % 16), 15);
        }
    }

    private static void farOfNever() {
        for (int state = 0; state < 16; state++) {
            CHECK.due("far(" + state + ")", Circuits.staying(15 - state).far(state), NONE);
        }
    }

    private static void farOutside() {
        StateSearcher x = Circuits.counter();
        CHECK.each("state", Circuits.outside(0, 15), state -> x.far(state), BAD);
    }

    private static void stepInside() {
        StateSearcher x = Circuits.shifter();
        x.next(3, 2);
        CHECK.due("step(0, 0)", x.step(0, 0), 0);
        CHECK.due("step(0, 7)", x.step(0, 7), 8 + 1);
        CHECK.due("step(15, 0)", x.step(15, 0), 4 + 2);
        CHECK.due("step(15, 7)", x.step(15, 7), 15);
    }

    private static void stepStateOutside() {
        StateSearcher x = new StateSearcher();
        CHECK.each("state, levels 0", Circuits.outside(0, 15), state -> x.step(state, 0), BAD);
        CHECK.each("state, levels 7", Circuits.outside(0, 15), state -> x.step(state, 7), BAD);
    }

    private static void stepLevelsOutside() {
        StateSearcher x = new StateSearcher();
        CHECK.each("levels, state 0", Circuits.outside(0, 7), levels -> x.step(0, levels), BAD);
        CHECK.each("levels, state 15", Circuits.outside(0, 7), levels -> x.step(15, levels), BAD);
    }

    private static void stepBothOutside() {
        StateSearcher x = new StateSearcher();
        CHECK.each("both", Circuits.outside(0, 15), both -> x.step(both, both), BAD);
        CHECK.due("step(16, 8)", x.step(16, 8), BAD);
    }

    private static void watchedInside() {
        StateSearcher x = new StateSearcher();
        // 1 when one or three of input 0, input 2 and register 3 are 1.
        x.gate(9, 0, 2, 6);
        x.watch(7);
        CHECK.due("watched(0, 0)", x.watched(0, 0), 0);
        CHECK.due("watched(0, 7)", x.watched(0, 7), 0);
        CHECK.due("watched(15, 0)", x.watched(15, 0), 1);
        CHECK.due("watched(15, 7)", x.watched(15, 7), 1);
        CHECK.due("watched(0, 1)", x.watched(0, 1), 1);
    }

    private static void watchedStateOutside() {
        StateSearcher x = new StateSearcher();
        CHECK.each("state, levels 0", Circuits.outside(0, 15), state -> x.watched(state, 0), BAD);
        CHECK.each("state, levels 7", Circuits.outside(0, 15), state -> x.watched(state, 7), BAD);
    }

    private static void watchedLevelsOutside() {
        StateSearcher x = new StateSearcher();
        CHECK.each("levels, state 0", Circuits.outside(0, 7), levels -> x.watched(0, levels), BAD);
        CHECK.each("levels, state 15", Circuits.outside(0, 7), levels -> x.watched(15, levels), BAD);
    }

    private static void watchedBothOutside() {
        StateSearcher x = new StateSearcher();
        CHECK.each("both", Circuits.outside(0, 15), both -> x.watched(both, both), BAD);
        CHECK.due("watched(16, 8)", x.watched(16, 8), BAD);
    }

    private static void lastCall() {
        dueAtLast("gate(0, 0, 0, 0)", x -> x.gate(0, 0, 0, 0), 14);
        dueAtLast("drop()", x -> x.drop(), 13);
        dueAtLast("signals()", x -> x.signals(), 14);
        dueAtLast("next(0, 0)", x -> x.next(0, 0) ? 1 : 0, 1);
        dueAtLast("begin(0, 0)", x -> x.begin(0, 0) ? 1 : 0, 1);
        dueAtLast("watch(0)", x -> x.watch(0) ? 1 : 0, 1);
        dueAtLast("ever(3)", x -> x.ever(3) ? 1 : 0, 1);
        dueAtLast("agree(0, 3)", x -> x.agree(0, 3) ? 1 : 0, 1);
        dueAtLast("depth(0)", x -> x.depth(0), 15);
        dueAtLast("depth(1)", x -> x.depth(1), 15);
        dueAtLast("input(15)", x -> x.input(15), 0);
        dueAtLast("holds(15, 0)", x -> x.holds(15, 0) ? 1 : 0, 0);
        dueAtLast("keeps(1, 1)", x -> x.keeps(1, 1) ? 1 : 0, 1);
        dueAtLast("reached()", x -> x.reached(), 65535);
        dueAtLast("far(15)", x -> x.far(15), 15);
        dueAtLast("step(15, 0)", x -> x.step(15, 0), 0);
        dueAtLast("watched(15, 0)", x -> x.watched(15, 0), 1);
    }

    /** The counter has taken 12 calls to make; 499 more leave one. */
    private static void dueAtLast(String what, ToIntFunction<StateSearcher> call, int want) {
        StateSearcher x = Circuits.counter();
        for (int calls = 12; calls + 2 < MOST_CALLS; calls += 2) {
            CHECK.due("gate before the last call", x.gate(9, 13, 13, 13), 14);
            CHECK.due("drop before the last call", x.drop(), 14);
        }
        x.signals();
        CHECK.due(what, call.applyAsInt(x), want);
    }
}
