/** Compares answers with those that are due, and ends the test with exit code 1 if one was wrong. */
final class Checks {
    private static final int SHOWN = 40;
    private int made = 0;
    private int wrong = 0;

    void due(String call, long got, long want) {
        made++;
        if (got != want) {
            tell(call + " answered " + got + ", due is " + want);
        }
    }

    void due(String call, String got, String want) {
        made++;
        if (!got.equals(want)) {
            tell(call + " answered " + got + ", due is " + want);
        }
    }

    private void tell(String line) {
        wrong++;
        if (wrong <= SHOWN) {
            System.out.println(line);
        }
    }

    /** No answer at all is not as due either: a test that looks at nothing shows nothing. */
    boolean allAsDue() {
        return wrong == 0 && made != 0;
    }

    void end() {
        System.out.println(made + " answers, " + wrong + " not as due");
        if (!allAsDue()) {
            System.exit(1);
        }
    }
}
