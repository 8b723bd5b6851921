/** Long runs of mixed calls, each answer compared with the model's; the runs are always the same. */
public final class ModelTest {
    private static final int OBJECTS = 1000;
    // A question may make two calls, and an object is used for at most 512.
    private static final int ROUNDS = 256;
    private static final int[] WRONG = {-1, -2, 4, 7, 8, 10, 16, 19, 32, 33, Integer.MIN_VALUE, Integer.MAX_VALUE};
    private static final Checker CHECK = new Checker();
    private static long seed = 20261115L;

    public static void main(String[] args) {
        for (int run = 0; run < OBJECTS && !CHECK.anyWrong(); run++) {
            StateSearcher x = new StateSearcher();
            Model model = new Model();
            int circuitCalls = run % 3 == 0 ? 0 : 30;
            for (int at = 0; at < ROUNDS; at++) {
                String where = "run " + run + ", call " + at + ": ";
                if (at < circuitCalls || below(6) == 0) {
                    change(where, x, model);
                } else {
                    ask(where, x, model);
                }
            }
        }
        CHECK.end("ModelTest");
    }

    private static int below(int bound) {
        seed = seed * 6364136223846793005L + 1442695040888963407L;
        return (int) ((seed >>> 33) % bound);
    }

    private static int mostlyBelow(int bound) {
        return below(16) == 0 ? WRONG[below(WRONG.length)] : below(bound);
    }

    private static void change(String where, StateSearcher x, Model model) {
        int n = model.signals();
        int choice = below(12);
        if (choice < 5) {
            int kind = mostlyBelow(10);
            int a = mostlyBelow(n);
            int b = mostlyBelow(n);
            int c = mostlyBelow(n);
            CHECK.due(where + "gate(" + kind + ", " + a + ", " + b + ", " + c + ")",
                x.gate(kind, a, b, c), model.gate(kind, a, b, c));
        } else if (choice < 6) {
            CHECK.due(where + "drop()", x.drop(), model.drop());
        } else if (choice < 9) {
            int r = mostlyBelow(4);
            int signal = below(2) == 0 ? n - 1 : mostlyBelow(n);
            CHECK.due(where + "next(" + r + ", " + signal + ")", x.next(r, signal), model.next(r, signal));
        } else if (choice < 10) {
            int r = mostlyBelow(4);
            int v = mostlyBelow(2);
            CHECK.due(where + "begin(" + r + ", " + v + ")", x.begin(r, v), model.begin(r, v));
        } else {
            int signal = below(2) == 0 ? n - 1 : mostlyBelow(n);
            CHECK.due(where + "watch(" + signal + ")", x.watch(signal), model.watch(signal));
        }
    }

    private static void ask(String where, StateSearcher x, Model model) {
        int choice = below(11);
        if (choice < 4) {
            askEngines(where, x, model, choice);
        } else if (choice < 6) {
            int ones = mostlyBelow(16);
            int zeros = mostlyBelow(16);
            String sets = "(" + ones + ", " + zeros + ")";
            CHECK.due(where + "holds" + sets, x.holds(ones, zeros), model.holds(ones, zeros));
            CHECK.due(where + "keeps" + sets, x.keeps(ones, zeros), model.keeps(ones, zeros));
        } else if (choice < 7) {
            CHECK.due(where + "reached()", x.reached(), model.reached());
            CHECK.due(where + "signals()", x.signals(), model.signals());
        } else if (choice < 9) {
            int state = mostlyBelow(16);
            CHECK.due(where + "far(" + state + ")", x.far(state), model.far(state));
        } else {
            int state = mostlyBelow(16);
            int levels = mostlyBelow(8);
            String both = "(" + state + ", " + levels + ")";
            CHECK.due(where + "step" + both, x.step(state, levels), model.step(state, levels));
            CHECK.due(where + "watched" + both, x.watched(state, levels), model.watched(state, levels));
        }
    }

    private static void askEngines(String where, StateSearcher x, Model model, int choice) {
        int engine = mostlyBelow(4);
        int other = mostlyBelow(4);
        if (choice == 0) {
            CHECK.due(where + "ever(" + engine + ")", x.ever(engine), model.ever(engine));
        } else if (choice == 1) {
            CHECK.due(where + "agree(" + engine + ", " + other + ")",
                x.agree(engine, other), model.agree(engine, other));
        } else if (choice == 2) {
            CHECK.due(where + "depth(" + engine + ")", x.depth(engine), model.depth(engine));
        } else {
            int k = mostlyBelow(below(2) == 0 ? 3 : 17);
            CHECK.due(where + "input(" + k + ")", x.input(k), model.input(k));
        }
    }
}
