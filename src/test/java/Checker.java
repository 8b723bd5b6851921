import java.util.function.IntPredicate;
import java.util.function.IntUnaryOperator;

/** Runs tests by name, and counts and prints the answers that are not the ones that are due. */
final class Checker {
    // All tests together take a few seconds; a test that is not done by then will never be.
    private static final long MOST_MILLISECONDS = 60_000;

    private String test = "";
    private int checked = 0;
    private int wrong = 0;

    /** A test that throws fails alone; one that does not end fails too, and is the last one. */
    void run(String name, Runnable body) {
        int before = checked;
        test = name + ": ";
        if (!ends(body)) {
            report("did not end");
            System.exit(1);
        }
        if (checked == before) {
            report("checked nothing");
        }
        test = "";
    }

    private boolean ends(Runnable body) {
        Thread thread = new Thread(() -> {
            try {
                body.run();
            } catch (RuntimeException thrown) {
                report("threw " + thrown);
            }
        });
        thread.start();
        try {
            thread.join(MOST_MILLISECONDS);
        } catch (InterruptedException stopped) {
            return false;
        }
        return !thread.isAlive();
    }

    void due(String what, int got, int want) {
        checked++;
        if (got != want) {
            report(what + " answered " + got + ", due is " + want);
        }
    }

    void due(String what, String got, String want) {
        checked++;
        if (!got.equals(want)) {
            report(what + " answered " + got + ", due is " + want);
        }
    }

    void due(String what, boolean got, boolean want) {
        due(what, got ? 1 : 0, want ? 1 : 0);
    }

    void each(String what, int[] arguments, IntUnaryOperator call, int want) {
        for (int argument : arguments) {
            due(what + " with " + argument, call.applyAsInt(argument), want);
        }
    }

    void each(String what, int[] arguments, IntPredicate call, boolean want) {
        for (int argument : arguments) {
            due(what + " with " + argument, call.test(argument), want);
        }
    }

    boolean anyWrong() {
        return wrong != 0;
    }

    void end(String name) {
        System.out.println(name + ": " + checked + " answers checked, " + wrong + " wrong");
        if (wrong != 0 || checked == 0) {
            System.exit(1);
        }
    }

    private void report(String text) {
        wrong++;
        System.out.println(test + text);
    }
}
