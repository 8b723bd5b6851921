/** Counts and prints the answers that are not the ones that are due. */
final class Checker {
    private int checked = 0;
    private int wrong = 0;

    void due(String what, int got, int want) {
        checked++;
        if (got != want) {
            wrong++;
            System.out.println(what + " answered " + got + ", due is " + want);
        }
    }

    void due(String what, boolean got, boolean want) {
        due(what, got ? 1 : 0, want ? 1 : 0);
    }

    boolean anyWrong() {
        return wrong != 0;
    }

    void end(String name) {
        System.out.println(name + ": " + checked + " answers checked, " + wrong + " wrong");
        if (wrong != 0 || checked == 0) {
            System.exit(1);
        }
    }
}
