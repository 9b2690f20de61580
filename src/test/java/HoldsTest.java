/** Promise 17: what holds in every WORKING state, told by the public face alone. */
public final class HoldsTest {
    private static final Check check = new Check("HoldsTest");

    private final Sequence numbers = new Sequence(17L);
    private TwoLevelMinimizer x;
    private int n;
    private int q;
    private int improved;

    public static void main(String[] args) {
        HoldsTest test = new HoldsTest();
        for (int run = 0; run < 1200; run++) {
            test.oneRun(run);
        }
        check.due("improve() was IMPROVED in at least 100 calls", test.improved >= 100, true);
        check.end();
    }

    private void oneRun(int run) {
        n = run % 40 == 0 ? 8 : 1 + numbers.below(5);
        q = 1 + numbers.below(4);
        x = new TwoLevelMinimizer(n, q, 16);
        int rounds = 1 + numbers.below(2);
        for (int round = 0; round < rounds; round++) {
            feed();
            x.begin();
            coverIsTheFunction("begin()");
            int calls = 2 + numbers.below(8);
            for (int call = 0; call < calls; call++) {
                work();
            }
            x.clear();
        }
    }

    private void feed() {
        int dashes = numbers.below(8);
        int ons = numbers.below(18);
        int dcs = numbers.below(5);
        for (int k = 0; k < ons; k++) {
            x.addOn(numbers.part(n, dashes), numbers.mask(q));
        }
        for (int k = 0; k < dcs; k++) {
            x.addDc(numbers.part(n, dashes), numbers.mask(q));
        }
    }

    private void work() {
        switch (numbers.below(8)) {
            case 0, 1 -> {
                x.expand();
                coverIsTheFunction("expand()");
            }
            case 2 -> {
                x.reduce();
                coverIsTheFunction("reduce()");
            }
            case 3, 4 -> {
                int left = x.irredundant();
                coverIsTheFunction("irredundant()");
                check.due("irredundant() is not refused", left >= 0, true);
                everyCubeIsNeeded("irredundant()");
            }
            case 5, 6 -> {
                int answer = x.improve();
                coverIsTheFunction("improve()");
                if (answer == TwoLevelMinimizer.IMPROVED) {
                    improved++;
                    everyCubeIsNeeded("improve()");
                }
            }
            default -> {
                x.begin();
                // Refused calls leave a WORKING state as well.
                x.addOn(numbers.part(n, 5), 1);
                x.addDc(numbers.part(n, 5), 1);
                coverIsTheFunction("begin() and refused adds");
            }
        }
    }

    private void coverIsTheFunction(String call) {
        check.due("phase() after " + call, x.phase(), 1);
        for (int m = 0; m < 1 << n; m++) {
            for (int o = 0; o < q; o++) {
                int value = x.function(m, o);
                if (value != TwoLevelMinimizer.DC) {
                    check.due("evaluate at a care point after " + call, x.evaluate(m, o), value);
                }
            }
        }
        for (int k = 0; k < x.cubeCount(); k++) {
            boolean implicant = x.isImplicant(x.cubeInputs(k), x.cubeOutputs(k));
            check.due("cube " + k + " is an implicant after " + call, implicant, true);
        }
    }

    private boolean contains(int k, int m, int o) {
        if (((x.cubeOutputs(k) >> o) & 1) == 0) {
            return false;
        }
        for (int i = 0; i < n; i++) {
            int bit = 2 * i + ((m >> i) & 1);
            if (((x.cubeInputs(k) >> bit) & 1) == 0) {
                return false;
            }
        }
        return true;
    }

    private void everyCubeIsNeeded(String call) {
        boolean[] needed = new boolean[x.cubeCount()];
        for (int m = 0; m < 1 << n; m++) {
            for (int o = 0; o < q; o++) {
                if (x.function(m, o) == TwoLevelMinimizer.ON) {
                    noteTheOnlyHolder(needed, m, o);
                }
            }
        }
        for (int k = 0; k < needed.length; k++) {
            check.due("cube " + k + " is needed after " + call, needed[k], true);
        }
    }

    private void noteTheOnlyHolder(boolean[] needed, int m, int o) {
        int holders = 0;
        int holder = 0;
        for (int k = 0; k < needed.length; k++) {
            if (contains(k, m, o)) {
                holders++;
                holder = k;
            }
        }
        if (holders == 1) {
            needed[holder] = true;
        }
    }
}
