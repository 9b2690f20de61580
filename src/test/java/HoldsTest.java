/** Promise 17: what holds in every WORKING state, after every call of long runs. */
public final class HoldsTest {
    private static final Check check = new Check("HoldsTest");

    private final Sequence numbers = new Sequence(17L);
    private TwoLevelMinimizer x;
    private Holds holds;
    private int n;
    private int q;
    private int improved;

    public static void main(String[] args) {
        HoldsTest test = new HoldsTest();
        for (int run = 0; run < 1200; run++) {
            test.oneRun(run);
        }
        check.due("improve() was IMPROVED in at least 100 calls", test.improved >= 100, true);
        check.end();
    }

    private void oneRun(int run) {
        n = run % 40 == 0 ? 8 : 1 + numbers.below(5);
        q = 1 + numbers.below(4);
        x = new TwoLevelMinimizer(n, q, 16);
        holds = new Holds(check, x, n, q);
        int rounds = 1 + numbers.below(2);
        for (int round = 0; round < rounds; round++) {
            feed();
            x.begin();
            look("begin()");
            int calls = 2 + numbers.below(8);
            for (int call = 0; call < calls; call++) {
                work();
            }
            x.clear();
        }
    }

    private void feed() {
        int dashes = numbers.below(8);
        int ons = numbers.below(18);
        int dcs = numbers.below(5);
        for (int k = 0; k < ons; k++) {
            x.addOn(numbers.part(n, dashes), numbers.mask(q));
        }
        for (int k = 0; k < dcs; k++) {
            x.addDc(numbers.part(n, dashes), numbers.mask(q));
        }
    }

    private void look(String after) {
        holds.coverIsTheFunction(after);
        holds.cubesAreImplicants(after);
    }

    private void work() {
        switch (numbers.below(8)) {
            case 0, 1 -> {
                x.expand();
                look("expand()");
            }
            case 2 -> {
                x.reduce();
                look("reduce()");
            }
            case 3, 4 -> {
                int left = x.irredundant();
                look("irredundant()");
                check.due("irredundant() is not refused", left >= 0, true);
                holds.everyCubeIsNeeded("irredundant()");
            }
            case 5, 6 -> {
                int answer = x.improve();
                look("improve()");
                if (answer == TwoLevelMinimizer.IMPROVED) {
                    improved++;
                    holds.everyCubeIsNeeded("improve()");
                }
            }
            default -> {
                x.begin();
                // Refused calls leave a WORKING state as well.
                x.addOn(numbers.part(n, 5), 1);
                x.addDc(numbers.part(n, 5), 1);
                look("begin() and refused adds");
            }
        }
    }
}
