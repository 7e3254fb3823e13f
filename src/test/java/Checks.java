/** Counts answers that are not the ones that are due, and tells them. */
final class Checks {
    private int made = 0;
    private int wrong = 0;

    void due(String what, long got, long want) {
        made++;
        if (got != want) {
            wrong++;
            System.out.println(what + " answered " + got + ", due is " + want);
        }
    }

    void due(String what, boolean got, boolean want) {
        due(what, got ? 1 : 0, want ? 1 : 0);
    }

    int wrong() {
        return wrong;
    }

    void end() {
        System.out.println(made + " answers looked at, " + wrong + " of them wrong");
        if (wrong != 0 || made == 0) {
            System.exit(1);
        }
    }
}
