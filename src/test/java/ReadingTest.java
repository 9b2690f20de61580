/** Promises 11 to 16: what the reading calls answer on ordinary covers and functions. */
public final class ReadingTest {
    private static final Check check = new Check("ReadingTest");

    public static void main(String[] args) {
        countIsThatOfTheCover();
        literals();
        evaluateReadsTheCover();
        functionReadsTheCubes();
        implicantsOfAFunction();
        implicantsAtTheGreatestSizes();
        check.end();
    }

    private static void countIsThatOfTheCover() {
        TwoLevelMinimizer x = new TwoLevelMinimizer(4, 1, 16);
        for (int k = 0; k < 16; k++) {
            x.addOn(85, 1);
            x.addDc(170, 1);
            check.due("FEEDING: cubeCount()", x.cubeCount(), 0);
        }
        x.begin();
        check.due("begun: cubeCount()", x.cubeCount(), 16);
        x.expand();
        check.due("expanded: cubeCount()", x.cubeCount(), 1);
        x.begin();
        x.irredundant();
        check.due("irredundant: cubeCount()", x.cubeCount(), 1);
        x.begin();
        x.reduce();
        check.due("reduced: cubeCount()", x.cubeCount(), 1);
        x.begin();
        x.improve();
        check.due("improved: cubeCount()", x.cubeCount(), 1);
        x.clear();
        check.due("cleared: cubeCount()", x.cubeCount(), 0);
    }

    private static void literals() {
        TwoLevelMinimizer x = Cubes.fed(2, "1-0/3 ---/1 010/2 1-0/3", "");
        check.due("FEEDING: literalCount()", x.literalCount(), 0);
        x.begin();
        check.due("begun: literalCount()", x.literalCount(), 7);
        x.clear();
        check.due("cleared: literalCount()", x.literalCount(), 0);
        x = new TwoLevelMinimizer(8, 1, 16);
        for (int k = 0; k < 16; k++) {
            x.addOn(k % 2 == 0 ? 21845 : 43690, 1);
        }
        x.begin();
        check.due("the most: literalCount()", x.literalCount(), 128);
        x.irredundant();
        check.due("irredundant: literalCount()", x.literalCount(), 16);
        x = Cubes.begun(1, "0-------/1 -------1/1 ---01---/1", "");
        check.due("single literals: literalCount()", x.literalCount(), 4);
        x = Cubes.begun(1, "-/1", "");
        check.due("no literal: literalCount()", x.literalCount(), 0);
    }

    private static void evaluateReadsTheCover() {
        // The digits stand for the minterms 0 to 7, so x0 changes fastest.
        TwoLevelMinimizer x = Cubes.fed(2, "1-0/1 01-/3", "0-1/2");
        check.due("FEEDING", Seen.evaluation(x), "00000000 00000000");
        x.begin();
        check.due("WORKING", Seen.evaluation(x), "01110010 00100010");
        check.due("F", Seen.function(x), "01110010 00102020");
        x.reduce();
        // The ON points of 01-/3 need both of its minterms and both outputs, so it still holds the don't-care.
        check.due("reduced", Seen.evaluation(x), "01110010 00100010");
        x.clear();
        check.due("cleared", Seen.evaluation(x), "00000000 00000000");
        // A cover that takes in a don't-care point answers 1 there, one that doesn't answers 0.
        x = Cubes.begun(1, "00/1", "10/1 11/1");
        check.due("begun", Seen.evaluation(x), "1000");
        x.expand();
        check.due("expanded", Seen.evaluation(x), "1100");
        x.reduce();
        check.due("reduced", Seen.evaluation(x), "1000");
    }

    private static void functionReadsTheCubes() {
        TwoLevelMinimizer x = new TwoLevelMinimizer(3, 1, 4);
        x.addOn(54, 1);
        check.due("x0 x1' of the document", Seen.function(x), "01000100");
        x.addDc(Cubes.part("1-1"), 1);
        check.due("DC wins over ON", Seen.function(x), "01000202");
        x.addOn(Cubes.part("1-1"), 1);
        check.due("DC wins over ON that came later", Seen.function(x), "01000202");
        x.begin();
        check.due("WORKING", Seen.function(x), "01000202");
        x.expand();
        x.reduce();
        check.due("after the passes", Seen.function(x), "01000202");
        x.clear();
        check.due("cleared", Seen.function(x), "00000000");
        x = Cubes.fed(4, "0/5 1/8", "0/12");
        check.due("each output by itself", Seen.function(x), "10 00 20 21");
    }

    private static void implicantsOfAFunction() {
        TwoLevelMinimizer x = new TwoLevelMinimizer(2, 2, 4);
        check.due("of no cubes", x.isImplicant(5, 1), false);
        x.addOn(Cubes.part("0-"), 1);
        implicant(x, "0-", 1, true);
        implicant(x, "00", 1, true);
        implicant(x, "-0", 1, false);
        implicant(x, "0-", 3, false);
        implicant(x, "0-", 2, false);
        x.addDc(Cubes.part("10"), 1);
        implicant(x, "-0", 1, true);
        implicant(x, "10", 1, true);
        implicant(x, "1-", 1, false);
        implicant(x, "--", 1, false);
        x.addOn(Cubes.part("-0"), 2);
        implicant(x, "-0", 3, true);
        implicant(x, "0-", 3, false);
        x.begin();
        implicant(x, "-0", 3, true);
        implicant(x, "0-", 3, false);
        // The function counts, not the cover: reduce takes the don't-care out of the cover only.
        x.reduce();
        implicant(x, "-0", 3, true);
        x.clear();
        implicant(x, "00", 1, false);
    }

    private static void implicant(TwoLevelMinimizer x, String inputs, int mask, boolean want) {
        check.due("isImplicant " + inputs + "/" + mask, x.isImplicant(Cubes.part(inputs), mask), want);
    }

    private static void implicantsAtTheGreatestSizes() {
        // All points but the one of minterm 255 at output 3.
        TwoLevelMinimizer x = Cubes.fed(4, "--------/7 0-------/8 -0------/8 --0-----/8 ---0----/8 ----0---/8",
                "-----0--/8 ------0-/8 -------0/8");
        implicant(x, "--------", 7, true);
        implicant(x, "--------", 8, false);
        implicant(x, "--------", 15, false);
        implicant(x, "11111111", 7, true);
        implicant(x, "11111111", 8, false);
        implicant(x, "1111111-", 8, false);
        implicant(x, "11111110", 15, true);
        implicant(x, "0-------", 15, true);
        implicant(x, "-------0", 15, true);
    }
}
