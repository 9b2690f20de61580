/** Counts the answers that are not as due, prints them, and ends the test's process. */
final class Check {
    private final String test;
    private int made;
    private int wrong;

    Check(String test) {
        this.test = test;
    }

    void due(String call, long got, long want) {
        made++;
        if (got != want) {
            wrong++;
            // A broken program can be wrong everywhere: the first rows are enough to tell how.
            if (wrong <= 40) {
                System.out.println(test + ": " + call + " answered " + got + ", due is " + want);
            }
        }
    }

    void due(String call, boolean got, boolean want) {
        due(call, got ? 1 : 0, want ? 1 : 0);
    }

    void due(String what, String got, String want) {
        made++;
        if (!got.equals(want)) {
            wrong++;
            if (wrong <= 40) {
                System.out.println(test + ": " + what + " is " + got + ", due is " + want);
            }
        }
    }

    void end() {
        System.out.println(test + ": " + made + " answers looked at, " + wrong + " not as due");
        if (wrong != 0 || made == 0) {
            System.exit(1);
        }
    }
}
