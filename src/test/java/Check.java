/** Counts the answers that are not as due, prints them, and ends the test's process. */
final class Check {
    // A broken program can be wrong everywhere: a few rows are enough to tell how.
    private static final int ROWS = 10;

    private final String test;
    private String about = "";
    private int sentences;
    private int made;
    private int wrong;
    private int rows;

    Check(String test) {
        this.test = test;
    }

    /** Runs the test of one sentence of the document; the rows it prints name the sentence. */
    void sentence(String words, Runnable test) {
        about = " [" + words + "]";
        sentences++;
        rows = 0;
        int before = made;
        try {
            test.run();
        } catch (RuntimeException thrown) {
            wrong("a call threw " + thrown);
        }
        // A test that looks at nothing would pass whatever the program does.
        if (made == before) {
            wrong("nothing was looked at");
        }
        about = "";
        rows = 0;
    }

    void due(String call, long got, long want) {
        made++;
        if (got != want) {
            wrong(call + " answered " + got + ", due is " + want);
        }
    }

    void due(String call, boolean got, boolean want) {
        made++;
        if (got != want) {
            wrong(call + " answered " + got + ", due is " + want);
        }
    }

    void due(String what, String got, String want) {
        made++;
        if (!got.equals(want)) {
            wrong(what + " is " + got + ", due is " + want);
        }
    }

    private void wrong(String row) {
        wrong++;
        rows++;
        if (rows <= ROWS) {
            System.out.println(test + about + ": " + row);
        }
    }

    void end() {
        String told = sentences == 0 ? "" : sentences + " sentences, ";
        System.out.println(test + ": " + told + made + " answers looked at, " + wrong + " not as due");
        if (wrong != 0 || made == 0) {
            System.exit(1);
        }
    }
}
