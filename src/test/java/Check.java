/** Counts answers that are not the ones due; a test ends with finish(). */
final class Check {
    private final String test;
    private int checks = 0;
    private int wrong = 0;

    Check(String test) {
        this.test = test;
    }

    void due(String what, long got, long want) {
        checks++;
        if (got != want) {
            wrong++;
            System.out.println(test + ": " + what + " answered " + got + ", due is " + want);
        }
    }

    void due(String what, boolean holds) {
        checks++;
        if (!holds) {
            wrong++;
            System.out.println(test + ": " + what);
        }
    }

    boolean failed() {
        return wrong > 0;
    }

    void finish() {
        System.out.println(test + ": " + checks + " checks, " + wrong + " wrong");
        if (wrong > 0) {
            System.exit(1);
        }
    }
}
