/** Promises 11 to 16: what the reading calls answer, and that they change nothing. */
public final class ReadingTest {
    private static final Check check = new Check("ReadingTest");
    private static final int LEAST = Integer.MIN_VALUE;
    private static final int GREATEST = Integer.MAX_VALUE;

    public static void main(String[] args) {
        countIsThatOfTheCover();
        positionsAtTheirEdges();
        answersAreValid();
        literals();
        pointsAtTheirEdges();
        evaluateReadsTheCover();
        functionReadsTheCubes();
        implicantsWrongArguments();
        implicantsOfAFunction();
        implicantsAtTheGreatestSizes();
        readingChangesNothing();
        check.end();
    }

    private static void countIsThatOfTheCover() {
        TwoLevelMinimizer x = new TwoLevelMinimizer(4, 1, 16);
        for (int k = 0; k < 16; k++) {
            x.addOn(85, 1);
            x.addDc(170, 1);
            check.due("FEEDING: cubeCount()", x.cubeCount(), 0);
        }
        x.begin();
        check.due("begun: cubeCount()", x.cubeCount(), 16);
        x.expand();
        check.due("expanded: cubeCount()", x.cubeCount(), 1);
        x.begin();
        x.irredundant();
        check.due("irredundant: cubeCount()", x.cubeCount(), 1);
        x.begin();
        x.reduce();
        check.due("reduced: cubeCount()", x.cubeCount(), 1);
        x.begin();
        x.improve();
        check.due("improved: cubeCount()", x.cubeCount(), 1);
        x.clear();
        check.due("cleared: cubeCount()", x.cubeCount(), 0);
    }

    private static void positionsAtTheirEdges() {
        int[] outside = {LEAST, LEAST + 1, -65536, -16, -1, 3, 4, 15, 16, 17, 65536, GREATEST - 1, GREATEST};
        TwoLevelMinimizer x = Cubes.fed(4, "1-/9 01/6 --/15", "");
        check.due("FEEDING: cubeInputs(0)", x.cubeInputs(0), -5);
        check.due("FEEDING: cubeOutputs(0)", x.cubeOutputs(0), -5);
        x.begin();
        for (int k : outside) {
            check.due("cubeInputs(" + k + ")", x.cubeInputs(k), -5);
            check.due("cubeOutputs(" + k + ")", x.cubeOutputs(k), -5);
        }
        check.due("cubeInputs(0)", x.cubeInputs(0), 14);
        check.due("cubeOutputs(0)", x.cubeOutputs(0), 9);
        check.due("cubeInputs(1)", x.cubeInputs(1), 9);
        check.due("cubeOutputs(1)", x.cubeOutputs(1), 6);
        check.due("cubeInputs(2)", x.cubeInputs(2), 15);
        check.due("cubeOutputs(2)", x.cubeOutputs(2), 15);
        // The positions that a pass has freed hold no cube.
        x.irredundant();
        check.due("cubeInputs(0)", x.cubeInputs(0), 15);
        check.due("cubeInputs(1) after a pass", x.cubeInputs(1), -5);
        check.due("cubeOutputs(1) after a pass", x.cubeOutputs(1), -5);
    }

    private static void answersAreValid() {
        Sequence numbers = new Sequence(12L);
        for (int run = 0; run < 300; run++) {
            int n = 1 + run % 8;
            int q = 1 + run % 4;
            TwoLevelMinimizer x = new TwoLevelMinimizer(n, q, 16);
            for (int k = 0; k < 10; k++) {
                x.addOn(numbers.part(n, 5), numbers.mask(q));
            }
            x.addDc(numbers.part(n, 5), numbers.mask(q));
            x.begin();
            valid(x, n, q);
            x.expand();
            valid(x, n, q);
            x.reduce();
            valid(x, n, q);
            x.improve();
            valid(x, n, q);
        }
    }

    private static void valid(TwoLevelMinimizer x, int n, int q) {
        for (int k = 0; k < x.cubeCount(); k++) {
            int part = x.cubeInputs(k);
            int mask = x.cubeOutputs(k);
            check.due("fields past n in " + part, part >> (2 * n), 0);
            for (int i = 0; i < n; i++) {
                check.due("a void field in " + part, ((part >> (2 * i)) & 3) == 0, false);
            }
            check.due("mask " + mask + " is valid", mask >= 1 && mask < 1 << q, true);
        }
    }

    private static void literals() {
        TwoLevelMinimizer x = Cubes.fed(2, "1-0/3 ---/1 010/2 1-0/3", "");
        check.due("FEEDING: literalCount()", x.literalCount(), 0);
        x.begin();
        check.due("begun: literalCount()", x.literalCount(), 7);
        x.clear();
        check.due("cleared: literalCount()", x.literalCount(), 0);
        x = new TwoLevelMinimizer(8, 1, 16);
        for (int k = 0; k < 16; k++) {
            x.addOn(k % 2 == 0 ? 21845 : 43690, 1);
        }
        x.begin();
        check.due("the most: literalCount()", x.literalCount(), 128);
        x.irredundant();
        check.due("irredundant: literalCount()", x.literalCount(), 16);
        x = Cubes.begun(1, "0-------/1 -------1/1 ---01---/1", "");
        check.due("single literals: literalCount()", x.literalCount(), 4);
        x = Cubes.begun(1, "-/1", "");
        check.due("no literal: literalCount()", x.literalCount(), 0);
    }

    private static void pointsAtTheirEdges() {
        for (int n = 1; n <= 8; n++) {
            for (int q = 1; q <= 4; q++) {
                TwoLevelMinimizer x = new TwoLevelMinimizer(n, q, 4);
                x.addOn((1 << (2 * n)) - 1, (1 << q) - 1);
                edges(x, n, q, 0);
                x.begin();
                edges(x, n, q, 1);
                x.expand();
                edges(x, n, q, 1);
            }
        }
    }

    private static void edges(TwoLevelMinimizer x, int n, int q, int held) {
        int[] minterms = {LEAST, LEAST + 1, -256, -1, 1 << n, (1 << n) + 1, 1 << 16, 1 << 30, GREATEST};
        int[] outputs = {LEAST, LEAST + 1, -32, -1, q, q + 1, 32, 33, GREATEST};
        int last = (1 << n) - 1;
        for (int e = 0; e < minterms.length; e++) {
            int m = minterms[e];
            int o = outputs[e];
            check.due("evaluate(" + m + ", 0)", x.evaluate(m, 0), -5);
            check.due("function(" + m + ", 0)", x.function(m, 0), -5);
            check.due("evaluate(" + last + ", " + o + ")", x.evaluate(last, o), -5);
            check.due("function(" + last + ", " + o + ")", x.function(last, o), -5);
            check.due("evaluate(" + m + ", " + o + ")", x.evaluate(m, o), -5);
            check.due("function(" + m + ", " + o + ")", x.function(m, o), -5);
        }
        check.due("evaluate(0, 0)", x.evaluate(0, 0), held);
        check.due("evaluate(" + last + ", " + (q - 1) + ")", x.evaluate(last, q - 1), held);
        check.due("function(0, 0)", x.function(0, 0), 1);
        check.due("function(" + last + ", " + (q - 1) + ")", x.function(last, q - 1), 1);
    }

    private static void evaluateReadsTheCover() {
        // The digits stand for the minterms 0 to 7, so x0 changes fastest.
        TwoLevelMinimizer x = Cubes.fed(2, "1-0/1 01-/3", "0-1/2");
        check.due("FEEDING", Seen.evaluation(x), "00000000 00000000");
        x.begin();
        check.due("WORKING", Seen.evaluation(x), "01110010 00100010");
        check.due("F", Seen.function(x), "01110010 00102020");
        x.reduce();
        // The ON points of 01-/3 need both of its minterms and both outputs, so it still holds the don't-care.
        check.due("reduced", Seen.evaluation(x), "01110010 00100010");
        x.clear();
        check.due("cleared", Seen.evaluation(x), "00000000 00000000");
        // A cover that takes in a don't-care point answers 1 there, one that doesn't answers 0.
        x = Cubes.begun(1, "00/1", "10/1 11/1");
        check.due("begun", Seen.evaluation(x), "1000");
        x.expand();
        check.due("expanded", Seen.evaluation(x), "1100");
        x.reduce();
        check.due("reduced", Seen.evaluation(x), "1000");
    }

    private static void functionReadsTheCubes() {
        TwoLevelMinimizer x = new TwoLevelMinimizer(3, 1, 4);
        x.addOn(54, 1);
        check.due("x0 x1' of the document", Seen.function(x), "01000100");
        x.addDc(Cubes.part("1-1"), 1);
        check.due("DC wins over ON", Seen.function(x), "01000202");
        x.addOn(Cubes.part("1-1"), 1);
        check.due("DC wins over ON that came later", Seen.function(x), "01000202");
        x.begin();
        check.due("WORKING", Seen.function(x), "01000202");
        x.expand();
        x.reduce();
        check.due("after the passes", Seen.function(x), "01000202");
        x.clear();
        check.due("cleared", Seen.function(x), "00000000");
        x = Cubes.fed(4, "0/5 1/8", "0/12");
        check.due("each output by itself", Seen.function(x), "10 00 20 21");
    }

    private static void implicantsWrongArguments() {
        TwoLevelMinimizer x = Cubes.fed(2, "--/3", "");
        for (int round = 0; round < 2; round++) {
            int[] parts = {LEAST, LEAST + 15, -1, 0, 1, 2, 3, 4, 8, 12, 16, 31, 65535, GREATEST};
            for (int part : parts) {
                check.due("isImplicant(" + part + ", 1)", x.isImplicant(part, 1), false);
            }
            int[] masks = {LEAST, LEAST + 1, -1, 0, 4, 5, 7, 1 << 30, GREATEST};
            for (int mask : masks) {
                check.due("isImplicant(15, " + mask + ")", x.isImplicant(15, mask), false);
            }
            check.due("isImplicant(0, 0)", x.isImplicant(0, 0), false);
            check.due("isImplicant(15, 3)", x.isImplicant(15, 3), true);
            check.due("isImplicant(5, 2)", x.isImplicant(5, 2), true);
            x.begin();
        }
    }

    private static void implicantsOfAFunction() {
        TwoLevelMinimizer x = new TwoLevelMinimizer(2, 2, 4);
        check.due("of no cubes", x.isImplicant(5, 1), false);
        x.addOn(Cubes.part("0-"), 1);
        implicant(x, "0-", 1, true);
        implicant(x, "00", 1, true);
        implicant(x, "-0", 1, false);
        implicant(x, "0-", 3, false);
        implicant(x, "0-", 2, false);
        x.addDc(Cubes.part("10"), 1);
        implicant(x, "-0", 1, true);
        implicant(x, "10", 1, true);
        implicant(x, "1-", 1, false);
        implicant(x, "--", 1, false);
        x.addOn(Cubes.part("-0"), 2);
        implicant(x, "-0", 3, true);
        implicant(x, "0-", 3, false);
        x.begin();
        implicant(x, "-0", 3, true);
        implicant(x, "0-", 3, false);
        // The function counts, not the cover: reduce takes the don't-care out of the cover only.
        x.reduce();
        implicant(x, "-0", 3, true);
        x.clear();
        implicant(x, "00", 1, false);
    }

    private static void implicant(TwoLevelMinimizer x, String inputs, int mask, boolean want) {
        check.due("isImplicant " + inputs + "/" + mask, x.isImplicant(Cubes.part(inputs), mask), want);
    }

    private static void implicantsAtTheGreatestSizes() {
        // All points but the one of minterm 255 at output 3.
        TwoLevelMinimizer x = Cubes.fed(4, "--------/7 0-------/8 -0------/8 --0-----/8 ---0----/8 ----0---/8",
                "-----0--/8 ------0-/8 -------0/8");
        implicant(x, "--------", 7, true);
        implicant(x, "--------", 8, false);
        implicant(x, "--------", 15, false);
        implicant(x, "11111111", 7, true);
        implicant(x, "11111111", 8, false);
        implicant(x, "1111111-", 8, false);
        implicant(x, "11111110", 15, true);
        implicant(x, "0-------", 15, true);
        implicant(x, "-------0", 15, true);
    }

    private static void readingChangesNothing() {
        TwoLevelMinimizer x = Cubes.fed(2, "1-0/1 01-/3 111/2", "0-1/2 -00/1");
        for (int round = 0; round < 3; round++) {
            String before = Seen.all(x);
            for (int a = -2; a < 70; a++) {
                for (int b = -2; b < 6; b++) {
                    x.evaluate(a, b);
                    x.function(a, b);
                    x.isImplicant(a, b);
                }
                x.cubeInputs(a);
                x.cubeOutputs(a);
                x.phase();
                x.cubeCount();
                x.literalCount();
            }
            check.due("after reading", Seen.all(x), before);
            x.begin();
            if (round == 1) {
                x.expand();
            }
        }
    }
}
