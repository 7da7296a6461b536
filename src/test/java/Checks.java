/** Counts the answers that are not the ones that are due, and prints each. */
final class Checks {
    private final String test;
    private int wrong = 0;
    private int asked = 0;

    Checks(String test) {
        this.test = test;
    }

    void due(String what, long got, long want) {
        asked++;
        if (got != want) {
            wrong++;
            System.out.println(test + ": " + what + " answered " + got + ", due is " + want);
        }
    }

    void due(String what, boolean got, boolean want) {
        due(what, got ? 1 : 0, want ? 1 : 0);
    }

    boolean isClean() {
        return wrong == 0;
    }

    void finish() {
        System.out.println(test + ": " + asked + " answers, " + wrong + " wrong");
        if (wrong != 0) {
            System.exit(1);
        }
    }
}
