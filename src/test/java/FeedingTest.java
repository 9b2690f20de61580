/** Promises 1 to 4, 9 and 10: construction, adding, begin, clear and the phase. */
public final class FeedingTest {
    private static final Check check = new Check("FeedingTest");
    private static final int LEAST = Integer.MIN_VALUE;
    private static final int GREATEST = Integer.MAX_VALUE;

    public static void main(String[] args) {
        constructionClamps();
        constructionStartsEmpty();
        addOnKnowsEveryPart();
        addDcKnowsEveryPart();
        masksAtTheirEdges();
        conditionsInTheirOrder();
        refusedAddsChangeNothing();
        addingIsAnsweredWithTheIndex();
        storesAreSeparate();
        addingChangesTheFunctionAlone();
        beginCopiesTheOnCubes();
        beginAgain();
        beginWithoutCubes();
        clearRemovesEverything();
        clearKeepsTheSizes();
        phases();
        check.end();
    }

    private static void sizes(String made, TwoLevelMinimizer x, int n, int q, int cap) {
        int all = (1 << (2 * n)) - 1;
        check.due(made + " function(2^n-1, 0)", x.function((1 << n) - 1, 0), 0);
        check.due(made + " function(2^n, 0)", x.function(1 << n, 0), -5);
        check.due(made + " function(0, q-1)", x.function(0, q - 1), 0);
        check.due(made + " function(0, q)", x.function(0, q), -5);
        check.due(made + " addOn(all+1, 1)", x.addOn(all + 1, 1), -2);
        check.due(made + " addOn(all, 2^q)", x.addOn(all, 1 << q), -3);
        for (int k = 0; k < cap; k++) {
            check.due(made + " addOn " + k, x.addOn(all, (1 << q) - 1), k);
            check.due(made + " addDc " + k, x.addDc(all, (1 << q) - 1), k);
        }
        check.due(made + " addOn past cap", x.addOn(all, 1), -4);
        check.due(made + " addDc past cap", x.addDc(all, 1), -4);
        check.due(made + " begin()", x.begin(), cap);
    }

    private static void constructionClamps() {
        int[] given = {LEAST, LEAST + 1, -1, 0, 1, 2, 3, 4, 5, 7, 8, 9, 15, 16, 17, 100, GREATEST - 1, GREATEST};
        int[] inputs = {1, 1, 1, 1, 1, 2, 3, 4, 5, 7, 8, 8, 8, 8, 8, 8, 8, 8};
        int[] outputs = {1, 1, 1, 1, 1, 2, 3, 4, 4, 4, 4, 4, 4, 4, 4, 4, 4, 4};
        int[] caps = {4, 4, 4, 4, 4, 4, 4, 4, 5, 7, 8, 9, 15, 16, 16, 16, 16, 16};
        for (int g = 0; g < given.length; g++) {
            String made = "inputs " + given[g];
            sizes(made, new TwoLevelMinimizer(given[g], 2, 6), inputs[g], 2, 6);
            made = "outputs " + given[g];
            sizes(made, new TwoLevelMinimizer(3, given[g], 6), 3, outputs[g], 6);
            made = "capacity " + given[g];
            sizes(made, new TwoLevelMinimizer(3, 2, given[g]), 3, 2, caps[g]);
            made = "all " + given[g];
            sizes(made, new TwoLevelMinimizer(given[g], given[g], given[g]), inputs[g], outputs[g], caps[g]);
        }
    }

    private static void constructionStartsEmpty() {
        for (int n = 1; n <= 8; n++) {
            for (int q = 1; q <= 4; q++) {
                TwoLevelMinimizer x = new TwoLevelMinimizer(n, q, 4);
                check.due("new: phase()", x.phase(), 0);
                check.due("new: cubeCount()", x.cubeCount(), 0);
                check.due("new: literalCount()", x.literalCount(), 0);
                check.due("new: cubeInputs(0)", x.cubeInputs(0), -5);
                check.due("new: cubeOutputs(0)", x.cubeOutputs(0), -5);
                for (int m = 0; m < 1 << n; m++) {
                    for (int o = 0; o < q; o++) {
                        check.due("new: function", x.function(m, o), 0);
                        check.due("new: evaluate", x.evaluate(m, o), 0);
                    }
                }
            }
        }
    }

    // The nine parts of two inputs that have no void field, counted out by hand.
    private static boolean isPartOfTwo(int part) {
        return part == 5 || part == 6 || part == 7 || part == 9 || part == 10 || part == 11
                || part == 13 || part == 14 || part == 15;
    }

    private static void addOnKnowsEveryPart() {
        for (int part = -70; part <= 70; part++) {
            TwoLevelMinimizer x = new TwoLevelMinimizer(2, 1, 4);
            check.due("addOn(" + part + ", 1)", x.addOn(part, 1), isPartOfTwo(part) ? 0 : -2);
        }
        TwoLevelMinimizer x = new TwoLevelMinimizer(8, 1, 4);
        int[] invalid = {LEAST, LEAST + 21845, -1, 0, 21844, 5461, 65536 + 21845, 131072 + 65535, GREATEST};
        for (int part : invalid) {
            check.due("addOn(" + part + ", 1)", x.addOn(part, 1), -2);
        }
        check.due("addOn(21845, 1)", x.addOn(21845, 1), 0);
        check.due("addOn(43690, 1)", x.addOn(43690, 1), 1);
        check.due("addOn(65535, 1)", x.addOn(65535, 1), 2);
    }

    private static void addDcKnowsEveryPart() {
        for (int part = -70; part <= 70; part++) {
            TwoLevelMinimizer x = new TwoLevelMinimizer(2, 1, 4);
            check.due("addDc(" + part + ", 1)", x.addDc(part, 1), isPartOfTwo(part) ? 0 : -2);
        }
        TwoLevelMinimizer x = new TwoLevelMinimizer(8, 1, 4);
        int[] invalid = {LEAST, LEAST + 21845, -1, 0, 21844, 5461, 65536 + 21845, 131072 + 65535, GREATEST};
        for (int part : invalid) {
            check.due("addDc(" + part + ", 1)", x.addDc(part, 1), -2);
        }
        check.due("addDc(21845, 1)", x.addDc(21845, 1), 0);
    }

    private static void masksAtTheirEdges() {
        for (int q = 1; q <= 4; q++) {
            int[] invalid = {LEAST, LEAST + 1, -1, 0, 1 << q, (1 << q) + 1, 1 << 30, GREATEST};
            TwoLevelMinimizer x = new TwoLevelMinimizer(1, q, 16);
            for (int mask : invalid) {
                check.due("addOn(3, " + mask + ")", x.addOn(3, mask), -3);
                check.due("addDc(3, " + mask + ")", x.addDc(3, mask), -3);
            }
            for (int mask = 1; mask < 1 << q; mask++) {
                check.due("addOn(3, " + mask + ")", x.addOn(3, mask), mask - 1);
                check.due("addDc(3, " + mask + ")", x.addDc(3, mask), mask - 1);
            }
        }
    }

    private static void conditionsInTheirOrder() {
        TwoLevelMinimizer x = new TwoLevelMinimizer(1, 1, 4);
        check.due("both wrong: addOn(0, 0)", x.addOn(0, 0), -2);
        check.due("both wrong: addDc(0, 0)", x.addDc(0, 0), -2);
        for (int k = 0; k < 4; k++) {
            x.addOn(3, 1);
            x.addDc(3, 1);
        }
        check.due("full: addOn(0, 0)", x.addOn(0, 0), -2);
        check.due("full: addDc(0, 0)", x.addDc(0, 0), -2);
        check.due("full: addOn(3, 0)", x.addOn(3, 0), -3);
        check.due("full: addDc(3, 0)", x.addDc(3, 0), -3);
        check.due("full: addOn(3, 1)", x.addOn(3, 1), -4);
        check.due("full: addDc(3, 1)", x.addDc(3, 1), -4);
        x.begin();
        check.due("full and working: addOn(0, 0)", x.addOn(0, 0), -1);
        check.due("full and working: addDc(0, 0)", x.addDc(0, 0), -1);
        check.due("full and working: addOn(3, 0)", x.addOn(3, 0), -1);
        check.due("full and working: addDc(3, 0)", x.addDc(3, 0), -1);
        check.due("full and working: addOn(3, 1)", x.addOn(3, 1), -1);
        check.due("full and working: addDc(3, 1)", x.addDc(3, 1), -1);
    }

    private static void addWrongly(TwoLevelMinimizer x) {
        int[] parts = {LEAST, -1, 0, 1, 16, GREATEST};
        for (int part : parts) {
            x.addOn(part, 1);
            x.addDc(part, 1);
        }
        int[] masks = {LEAST, -1, 0, 4, GREATEST};
        for (int mask : masks) {
            x.addOn(15, mask);
            x.addDc(15, mask);
        }
    }

    private static void refusedAddsChangeNothing() {
        TwoLevelMinimizer x = new TwoLevelMinimizer(2, 2, 4);
        x.addOn(5, 1);
        x.addDc(10, 2);
        String before = Seen.all(x);
        addWrongly(x);
        check.due("after wrong adds", Seen.all(x), before);
        check.due("the next on-cube", x.addOn(5, 1), 1);
        check.due("the next dc-cube", x.addDc(10, 2), 1);
        x.addOn(5, 1);
        x.addOn(5, 1);
        x.addDc(10, 2);
        x.addDc(10, 2);
        check.due("after duplicates", Seen.all(x), before);
        x.addOn(15, 3);
        x.addDc(15, 3);
        check.due("after adds to full stores", Seen.all(x), before);
        x.begin();
        before = Seen.all(x);
        x.addOn(15, 3);
        x.addDc(15, 3);
        addWrongly(x);
        check.due("after adds while WORKING", Seen.all(x), before);
        check.due("begin() after adds while WORKING", x.begin(), 4);
        check.due("the cover after them", Seen.cover(x), "5/1 5/1 5/1 5/1");
    }

    private static void addingIsAnsweredWithTheIndex() {
        TwoLevelMinimizer x = new TwoLevelMinimizer(8, 4, 16);
        for (int k = 0; k < 16; k++) {
            check.due("addOn, the " + k + "th", x.addOn(21845 + k % 2, 1 + k % 15), k);
            check.due("phase()", x.phase(), 0);
            check.due("cubeCount()", x.cubeCount(), 0);
        }
        for (int k = 0; k < 16; k++) {
            check.due("addDc, the " + k + "th", x.addDc(21845, 15), k);
            check.due("phase()", x.phase(), 0);
            check.due("cubeCount()", x.cubeCount(), 0);
        }
    }

    private static void storesAreSeparate() {
        TwoLevelMinimizer x = new TwoLevelMinimizer(2, 1, 5);
        for (int k = 0; k < 5; k++) {
            check.due("addOn", x.addOn(5, 1), k);
        }
        check.due("addOn to the full store", x.addOn(5, 1), -4);
        check.due("addDc beside a full on-store", x.addDc(10, 1), 0);
        TwoLevelMinimizer y = new TwoLevelMinimizer(2, 1, 5);
        for (int k = 0; k < 5; k++) {
            check.due("addDc", y.addDc(5, 1), k);
        }
        check.due("addDc to the full store", y.addDc(5, 1), -4);
        check.due("addOn beside a full dc-store", y.addOn(10, 1), 0);
        check.due("begin() copies the on-cubes alone", y.begin(), 1);
        check.due("the cover", Seen.cover(y), "10/1");
    }

    private static void addingChangesTheFunctionAlone() {
        TwoLevelMinimizer x = new TwoLevelMinimizer(2, 2, 4);
        check.due("F at first", Seen.function(x), "0000 0000");
        x.addOn(Cubes.part("0-"), 1);
        check.due("F after an on-cube", Seen.function(x), "1010 0000");
        x.addDc(Cubes.part("-1"), 3);
        check.due("F after a dc-cube", Seen.function(x), "1022 0022");
        x.addOn(Cubes.part("--"), 2);
        check.due("F after an on-cube over the dc-cube", Seen.function(x), "1022 1122");
        check.due("the cover while FEEDING", Seen.evaluation(x), "0000 0000");
        check.due("cubeCount()", x.cubeCount(), 0);
    }

    private static void beginCopiesTheOnCubes() {
        TwoLevelMinimizer x = Cubes.fed(3, "1-0/3 ---/1 1-0/3 010/7 0--/4", "111/1");
        String before = Seen.function(x);
        check.due("begin()", x.begin(), 5);
        check.due("the cover", Cubes.cover(x, 3), "1-0/3 ---/1 1-0/3 010/7 0--/4");
        check.due("phase()", x.phase(), 1);
        check.due("F after begin()", Seen.function(x), before);
    }

    private static void beginAgain() {
        TwoLevelMinimizer x = Cubes.begun(1, "00/1 10/1 01/1 11/1", "");
        check.due("expand()", x.expand(), 1);
        check.due("the cover", Cubes.cover(x, 2), "--/1");
        check.due("begin() again", x.begin(), 4);
        check.due("the cover after it", Cubes.cover(x, 2), "00/1 10/1 01/1 11/1");
        check.due("phase()", x.phase(), 1);
        x.reduce();
        x.improve();
        check.due("begin() after improve()", x.begin(), 4);
        check.due("the cover after that", Cubes.cover(x, 2), "00/1 10/1 01/1 11/1");
        check.due("F", Seen.function(x), "1111");
    }

    private static void beginWithoutCubes() {
        TwoLevelMinimizer x = new TwoLevelMinimizer(2, 2, 4);
        x.addDc(15, 3);
        check.due("begin() without on-cubes", x.begin(), 0);
        check.due("phase()", x.phase(), 1);
        check.due("cubeCount()", x.cubeCount(), 0);
        check.due("begin() once more", x.begin(), 0);
    }

    private static void clearRemovesEverything() {
        TwoLevelMinimizer x = Cubes.fed(2, "0-/1 -1/3", "11/2");
        String fresh = Seen.all(new TwoLevelMinimizer(2, 2, 16));
        x.clear();
        check.due("clear() while FEEDING", Seen.all(x), fresh);
        check.due("the first on-cube after it", x.addOn(5, 1), 0);
        check.due("the first dc-cube after it", x.addDc(10, 1), 0);
        x.begin();
        x.expand();
        x.clear();
        check.due("clear() while WORKING", Seen.all(x), fresh);
        check.due("expand() after it", x.expand(), -1);
        check.due("improve() after it", x.improve(), -1);
        check.due("cubeInputs(0) after it", x.cubeInputs(0), -5);
        check.due("begin() after it", x.begin(), 0);
        x.clear();
        x.clear();
        check.due("clear() twice", Seen.all(x), fresh);
        check.due("isImplicant after clear()", x.isImplicant(5, 1), false);
    }

    private static void clearKeepsTheSizes() {
        int[][] sizes = {{1, 1, 4}, {2, 3, 5}, {5, 2, 9}, {8, 4, 16}};
        for (int[] size : sizes) {
            TwoLevelMinimizer x = new TwoLevelMinimizer(size[0], size[1], size[2]);
            for (int round = 0; round < 3; round++) {
                sizes("cleared " + round + " times", x, size[0], size[1], size[2]);
                x.improve();
                x.clear();
            }
        }
    }

    private static void phases() {
        TwoLevelMinimizer x = new TwoLevelMinimizer(2, 1, 4);
        check.due("phase() at first", x.phase(), 0);
        x.addOn(5, 1);
        x.addDc(5, 1);
        x.expand();
        x.improve();
        check.due("phase() before begin()", x.phase(), 0);
        x.begin();
        check.due("phase() after begin()", x.phase(), 1);
        x.expand();
        x.irredundant();
        x.reduce();
        x.improve();
        x.addOn(5, 1);
        check.due("phase() after the passes", x.phase(), 1);
        x.begin();
        check.due("phase() after begin() again", x.phase(), 1);
        x.clear();
        check.due("phase() after clear()", x.phase(), 0);
    }
}
