/** The three points of promise 17, told of one state by the public face alone. */
final class Holds {
    private final Check check;
    private final TwoLevelMinimizer x;
    private final int n;
    private final int q;

    Holds(Check check, TwoLevelMinimizer x, int n, int q) {
        this.check = check;
        this.x = x;
        this.n = n;
        this.q = q;
    }

    /** Point 1. */
    void coverIsTheFunction(String after) {
        check.due("phase() after " + after, x.phase(), 1);
        for (int m = 0; m < 1 << n; m++) {
            for (int o = 0; o < q; o++) {
                int value = x.function(m, o);
                if (value != TwoLevelMinimizer.DC) {
                    check.due("evaluate at a care point after " + after, x.evaluate(m, o), value);
                }
            }
        }
    }

    /** Point 2. */
    void cubesAreImplicants(String after) {
        check.due("phase() after " + after, x.phase(), 1);
        for (int k = 0; k < x.cubeCount(); k++) {
            boolean implicant = x.isImplicant(x.cubeInputs(k), x.cubeOutputs(k));
            check.due("cube " + k + " is an implicant after " + after, implicant, true);
        }
    }

    /** Point 3, for the states that it names. */
    void everyCubeIsNeeded(String after) {
        boolean[] needed = new boolean[x.cubeCount()];
        for (int m = 0; m < 1 << n; m++) {
            for (int o = 0; o < q; o++) {
                if (x.function(m, o) == TwoLevelMinimizer.ON) {
                    noteTheOnlyHolder(needed, m, o);
                }
            }
        }
        for (int k = 0; k < needed.length; k++) {
            check.due("cube " + k + " is needed after " + after, needed[k], true);
        }
    }

    private void noteTheOnlyHolder(boolean[] needed, int m, int o) {
        int holders = 0;
        int holder = 0;
        for (int k = 0; k < needed.length; k++) {
            if (contains(k, m, o)) {
                holders++;
                holder = k;
            }
        }
        if (holders == 1) {
            needed[holder] = true;
        }
    }

    private boolean contains(int k, int m, int o) {
        if (((x.cubeOutputs(k) >> o) & 1) == 0) {
            return false;
        }
        for (int i = 0; i < n; i++) {
            int bit = 2 * i + ((m >> i) & 1);
            if (((x.cubeInputs(k) >> bit) & 1) == 0) {
                return false;
            }
        }
        return true;
    }
}
