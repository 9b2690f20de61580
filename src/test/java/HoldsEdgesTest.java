/** Promise 17: each of its three points at the least and the greatest sizes and where the cover is empty. */
public final class HoldsEdgesTest {
    private static final Check check = new Check("HoldsEdgesTest");
    private static final String[] CALLS = {"begin()", "expand()", "irredundant()", "reduce()", "improve()"};

    /** Looks at the state that a call has left. */
    private interface Looking {
        void look(TwoLevelMinimizer x, int n, int q, String call, int answer);
    }

    public static void main(String[] args) {
        for (int point = 1; point <= 3; point++) {
            Looking looking = lookingAt(point);
            String name = "17, point " + point + ": ";
            check.sentence(name + "least n, q and cap, every function", () -> everySmallest(looking));
            check.sentence(name + "least n and cap, greatest q", () -> manyOf(1, 4, 4, looking));
            check.sentence(name + "greatest n, least q and cap", () -> manyOf(8, 1, 4, looking));
            check.sentence(name + "least n and q, greatest cap", () -> manyOf(1, 1, 16, looking));
            check.sentence(name + "greatest n, q and cap", () -> manyOf(8, 4, 16, looking));
            check.sentence(name + "where the cover is empty", () -> emptyCovers(looking));
            check.sentence(name + "where the cover is all of the points", () -> fullCovers(looking));
        }
        check.end();
    }

    private static Looking lookingAt(int point) {
        if (point == 1) {
            return (x, n, q, call, answer) -> new Holds(check, x, n, q).coverIsTheFunction(call);
        }
        if (point == 2) {
            return (x, n, q, call, answer) -> new Holds(check, x, n, q).cubesAreImplicants(call);
        }
        return (x, n, q, call, answer) -> {
            check.due(call + " is refused", answer < 0, false);
            if (call.equals("irredundant()") || call.equals("improve()") && answer == 1) {
                new Holds(check, x, n, q).everyCubeIsNeeded(call);
            }
        };
    }

    private static int make(TwoLevelMinimizer x, String call) {
        return switch (call) {
            case "begin()" -> x.begin();
            case "expand()" -> x.expand();
            case "irredundant()" -> x.irredundant();
            case "reduce()" -> x.reduce();
            default -> x.improve();
        };
    }

    private static void runOf(TwoLevelMinimizer x, int n, int q, int[] calls, Looking looking) {
        for (int call : calls) {
            int answer = make(x, CALLS[call]);
            looking.look(x, n, q, CALLS[call], answer);
        }
    }

    // With one input there are three cubes at output 0: 1, 2 and 3. The digits of a number name a list of them.
    private static int[] listOf(int length, int number) {
        int[] parts = new int[length];
        for (int k = 0; k < length; k++) {
            parts[k] = 1 + number % 3;
            number /= 3;
        }
        return parts;
    }

    // Every list of on-cubes, every list of at most two dc-cubes, and every run of three calls after begin().
    private static void everySmallest(Looking looking) {
        for (int ons = 0, onLists = 1; ons <= 4; ons++, onLists *= 3) {
            for (int on = 0; on < onLists; on++) {
                for (int dcs = 0, dcLists = 1; dcs <= 2; dcs++, dcLists *= 3) {
                    for (int dc = 0; dc < dcLists; dc++) {
                        everyRun(listOf(ons, on), listOf(dcs, dc), looking);
                    }
                }
            }
        }
    }

    private static void everyRun(int[] on, int[] dc, Looking looking) {
        TwoLevelMinimizer x = new TwoLevelMinimizer(1, 1, 4);
        for (int part : on) {
            x.addOn(part, 1);
        }
        for (int part : dc) {
            x.addDc(part, 1);
        }
        for (int calls = 0; calls < 125; calls++) {
            runOf(x, 1, 1, new int[] {0, calls % 5, calls / 5 % 5, calls / 25}, looking);
        }
    }

    // Random functions, some with full stores, and random calls.
    private static void manyOf(int n, int q, int cap, Looking looking) {
        Sequence numbers = new Sequence(170L + n + q + cap);
        int runs = n == 8 ? 40 : 400;
        for (int run = 0; run < runs; run++) {
            TwoLevelMinimizer x = new TwoLevelMinimizer(n, q, cap);
            int ons = run % 2 == 0 ? cap : numbers.below(cap + 1);
            int dcs = run % 5 == 0 ? cap : numbers.below(cap + 1) / 2;
            int dashes = numbers.below(9);
            for (int k = 0; k < ons; k++) {
                x.addOn(numbers.part(n, dashes), numbers.mask(q));
            }
            for (int k = 0; k < dcs; k++) {
                x.addDc(numbers.part(n, dashes / 2), numbers.mask(q));
            }
            int[] calls = {0, numbers.below(5), numbers.below(5), 4, numbers.below(5), 2, numbers.below(5)};
            runOf(x, n, q, calls, looking);
        }
    }

    private static void emptyCovers(Looking looking) {
        int[][] sizes = {{1, 1, 4}, {1, 4, 16}, {3, 2, 8}, {8, 1, 4}, {8, 4, 16}};
        for (int[] size : sizes) {
            int n = size[0];
            int q = size[1];
            TwoLevelMinimizer x = new TwoLevelMinimizer(n, q, size[2]);
            runOf(x, n, q, new int[] {0, 1, 2, 3, 4, 0}, looking);
            check.due("no cubes: cubeCount()", x.cubeCount(), 0);
            x.clear();
            x.addDc(Cubes.every(n, 3), 1);
            runOf(x, n, q, new int[] {0, 1, 2, 3, 4, 0}, looking);
            check.due("a dc-cube: cubeCount()", x.cubeCount(), 0);
            x.clear();
            x.addOn(Cubes.every(n, 1), 1);
            x.addOn(Cubes.every(n, 3), 1);
            x.addDc(Cubes.every(n, 3), 1);
            runOf(x, n, q, new int[] {0, 2, 1, 3, 4}, looking);
            check.due("on-cubes under a dc-cube: cubeCount()", x.cubeCount(), 0);
            runOf(x, n, q, new int[] {0, 4, 4, 2}, looking);
            check.due("on-cubes under a dc-cube, improved: cubeCount()", x.cubeCount(), 0);
        }
    }

    private static void fullCovers(Looking looking) {
        int[][] sizes = {{1, 1, 4}, {1, 4, 16}, {3, 2, 8}, {8, 1, 4}, {8, 4, 16}};
        for (int[] size : sizes) {
            int n = size[0];
            int q = size[1];
            TwoLevelMinimizer x = new TwoLevelMinimizer(n, q, size[2]);
            for (int k = 0; k < size[2]; k++) {
                x.addOn(Cubes.every(n, 3), (1 << q) - 1);
            }
            runOf(x, n, q, new int[] {0, 2, 0, 3, 0, 4, 0, 1, 2, 3, 4}, looking);
            check.due("all points ON: cubeCount()", x.cubeCount(), 1);
        }
    }
}
