/** Long runs of calls on the program and on the model: every answer is due to be the same (promises 1 to 16). */
public final class ModelTest {
    private static final Check check = new Check("ModelTest");
    private static final int[] EDGES = {
        Integer.MIN_VALUE, Integer.MIN_VALUE + 1, -65536, -2, -1, 0, 1, 2, 3, 4, 8, 15, 16, 17, 255, 256,
        65535, 65536, 1 << 30, Integer.MAX_VALUE - 1, Integer.MAX_VALUE
    };

    private final Sequence numbers = new Sequence(20261115L);
    private TwoLevelMinimizer x;
    private Model y;
    private int n;
    private int q;
    private int cap;
    private int kept;
    private String run;

    public static void main(String[] args) {
        ModelTest test = new ModelTest();
        for (int run = 0; run < 1500; run++) {
            test.oneRun(run);
        }
        check.due("improve() was IMPROVED in at least 100 calls", test.kept >= 100, true);
        check.end();
    }

    private int below(int bound) {
        return numbers.below(bound);
    }

    private void oneRun(int number) {
        // Most runs are small, for then cubes meet often; some have every size at its greatest.
        int inputs = number % 25 == 0 ? 8 : 1 + below(5);
        int outputs = 1 + below(4);
        int capacity = 4 + below(13);
        run = "run " + number + " ";
        x = new TwoLevelMinimizer(inputs, outputs, capacity);
        y = new Model(inputs, outputs, capacity);
        n = inputs;
        q = outputs;
        cap = capacity;
        look();
        int rounds = 1 + below(3);
        for (int round = 0; round < rounds; round++) {
            feed();
            refusedPasses();
            due("begin()", x.begin(), y.begin());
            look();
            work();
            wrongCalls();
            if (below(2) == 0) {
                x.clear();
                y.clear();
                look();
            }
        }
    }

    private void feed() {
        int dashes = below(8);
        int ons = below(cap + 2);
        int dcs = below(3) == 0 ? below(cap + 2) : below(4);
        for (int k = 0; k < ons; k++) {
            int part = numbers.part(n, dashes);
            int mask = numbers.mask(q);
            due("addOn(" + part + ", " + mask + ")", x.addOn(part, mask), y.addOn(part, mask));
            if (below(4) == 0) {
                due("addOn again", x.addOn(part, mask), y.addOn(part, mask));
            }
        }
        for (int k = 0; k < dcs; k++) {
            int part = numbers.part(n, dashes - 1);
            int mask = numbers.mask(q);
            due("addDc(" + part + ", " + mask + ")", x.addDc(part, mask), y.addDc(part, mask));
        }
        wrongCalls();
        look();
    }

    private void refusedPasses() {
        due("expand()", x.expand(), y.expand());
        due("irredundant()", x.irredundant(), y.irredundant());
        due("reduce()", x.reduce(), y.reduce());
        due("improve()", x.improve(), y.improve());
        look();
    }

    private void work() {
        int calls = 1 + below(8);
        for (int call = 0; call < calls; call++) {
            switch (below(9)) {
                case 0, 1 -> due("expand()", x.expand(), y.expand());
                case 2, 3 -> due("irredundant()", x.irredundant(), y.irredundant());
                case 4, 5 -> due("reduce()", x.reduce(), y.reduce());
                case 6, 7 -> {
                    int got = x.improve();
                    due("improve()", got, y.improve());
                    kept += got == TwoLevelMinimizer.IMPROVED ? 1 : 0;
                }
                default -> due("begin()", x.begin(), y.begin());
            }
            look();
        }
    }

    private int edge() {
        return EDGES[below(EDGES.length)];
    }

    private void wrongCalls() {
        for (int call = 0; call < 6; call++) {
            int a = below(2) == 0 ? edge() : below(1 << (2 * n + 1));
            int b = below(2) == 0 ? edge() : below(1 << (q + 1));
            String given = "(" + a + ", " + b + ")";
            due("isImplicant" + given, x.isImplicant(a, b) ? 1 : 0, y.isImplicant(a, b) ? 1 : 0);
            due("addOn" + given, x.addOn(a, b), y.addOn(a, b));
            due("addDc" + given, x.addDc(a, b), y.addDc(a, b));
            due("evaluate" + given, x.evaluate(a, b), y.evaluate(a, b));
            due("function" + given, x.function(a, b), y.function(a, b));
            due("cubeInputs(" + a + ")", x.cubeInputs(a), y.cubeInputs(a));
            due("cubeOutputs(" + a + ")", x.cubeOutputs(a), y.cubeOutputs(a));
        }
    }

    private void look() {
        due("phase()", x.phase(), y.phase());
        due("cubeCount()", x.cubeCount(), y.cubeCount());
        due("literalCount()", x.literalCount(), y.literalCount());
        for (int k = -1; k <= cap; k++) {
            due("cubeInputs(" + k + ")", x.cubeInputs(k), y.cubeInputs(k));
            due("cubeOutputs(" + k + ")", x.cubeOutputs(k), y.cubeOutputs(k));
        }
        for (int m = -1; m <= 1 << n; m++) {
            for (int o = -1; o <= q; o++) {
                due("function(" + m + ", " + o + ")", x.function(m, o), y.function(m, o));
                due("evaluate(" + m + ", " + o + ")", x.evaluate(m, o), y.evaluate(m, o));
            }
        }
        for (int call = 0; call < 4; call++) {
            int part = numbers.part(n, 3);
            int mask = numbers.mask(q);
            due("isImplicant(" + part + ", " + mask + ")",
                    x.isImplicant(part, mask) ? 1 : 0, y.isImplicant(part, mask) ? 1 : 0);
        }
    }

    private void due(String call, int got, int want) {
        if (got != want) {
            check.due(run + call, got, want);
        } else {
            check.due(call, got, want);
        }
    }
}
