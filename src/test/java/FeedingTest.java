/** Promises 2 to 4, 9 and 10: adding, begin, clear and the phase, on ordinary cubes. */
public final class FeedingTest {
    private static final Check check = new Check("FeedingTest");
    private static final int LEAST = Integer.MIN_VALUE;
    private static final int GREATEST = Integer.MAX_VALUE;

    public static void main(String[] args) {
        addOnKnowsEveryPart();
        addDcKnowsEveryPart();
        addingChangesTheFunctionAlone();
        beginCopiesTheOnCubes();
        clearRemovesEverything();
        phases();
        check.end();
    }

    // The nine parts of two inputs that have no void field, counted out by hand.
    private static boolean isPartOfTwo(int part) {
        return part == 5 || part == 6 || part == 7 || part == 9 || part == 10 || part == 11
                || part == 13 || part == 14 || part == 15;
    }

    private static void addOnKnowsEveryPart() {
        for (int part = -70; part <= 70; part++) {
            TwoLevelMinimizer x = new TwoLevelMinimizer(2, 1, 4);
            check.due("addOn(" + part + ", 1)", x.addOn(part, 1), isPartOfTwo(part) ? 0 : -2);
        }
        TwoLevelMinimizer x = new TwoLevelMinimizer(8, 1, 4);
        int[] invalid = {LEAST, LEAST + 21845, -1, 0, 21844, 5461, 65536 + 21845, 131072 + 65535, GREATEST};
        for (int part : invalid) {
            check.due("addOn(" + part + ", 1)", x.addOn(part, 1), -2);
        }
        check.due("addOn(21845, 1)", x.addOn(21845, 1), 0);
        check.due("addOn(43690, 1)", x.addOn(43690, 1), 1);
        check.due("addOn(65535, 1)", x.addOn(65535, 1), 2);
    }

    private static void addDcKnowsEveryPart() {
        for (int part = -70; part <= 70; part++) {
            TwoLevelMinimizer x = new TwoLevelMinimizer(2, 1, 4);
            check.due("addDc(" + part + ", 1)", x.addDc(part, 1), isPartOfTwo(part) ? 0 : -2);
        }
        TwoLevelMinimizer x = new TwoLevelMinimizer(8, 1, 4);
        int[] invalid = {LEAST, LEAST + 21845, -1, 0, 21844, 5461, 65536 + 21845, 131072 + 65535, GREATEST};
        for (int part : invalid) {
            check.due("addDc(" + part + ", 1)", x.addDc(part, 1), -2);
        }
        check.due("addDc(21845, 1)", x.addDc(21845, 1), 0);
    }

    private static void addingChangesTheFunctionAlone() {
        TwoLevelMinimizer x = new TwoLevelMinimizer(2, 2, 4);
        check.due("F at first", Seen.function(x), "0000 0000");
        x.addOn(Cubes.part("0-"), 1);
        check.due("F after an on-cube", Seen.function(x), "1010 0000");
        x.addDc(Cubes.part("-1"), 3);
        check.due("F after a dc-cube", Seen.function(x), "1022 0022");
        x.addOn(Cubes.part("--"), 2);
        check.due("F after an on-cube over the dc-cube", Seen.function(x), "1022 1122");
        check.due("the cover while FEEDING", Seen.evaluation(x), "0000 0000");
        check.due("cubeCount()", x.cubeCount(), 0);
    }

    private static void beginCopiesTheOnCubes() {
        TwoLevelMinimizer x = Cubes.fed(3, "1-0/3 ---/1 1-0/3 010/7 0--/4", "111/1");
        String before = Seen.function(x);
        check.due("begin()", x.begin(), 5);
        check.due("the cover", Cubes.cover(x, 3), "1-0/3 ---/1 1-0/3 010/7 0--/4");
        check.due("phase()", x.phase(), 1);
        check.due("F after begin()", Seen.function(x), before);
    }

    private static void clearRemovesEverything() {
        TwoLevelMinimizer x = Cubes.fed(2, "0-/1 -1/3", "11/2");
        String fresh = Seen.all(new TwoLevelMinimizer(2, 2, 16));
        x.clear();
        check.due("clear() while FEEDING", Seen.all(x), fresh);
        check.due("the first on-cube after it", x.addOn(5, 1), 0);
        check.due("the first dc-cube after it", x.addDc(10, 1), 0);
        x.begin();
        x.expand();
        x.clear();
        check.due("clear() while WORKING", Seen.all(x), fresh);
        check.due("expand() after it", x.expand(), -1);
        check.due("improve() after it", x.improve(), -1);
        check.due("cubeInputs(0) after it", x.cubeInputs(0), -5);
        check.due("begin() after it", x.begin(), 0);
        x.clear();
        x.clear();
        check.due("clear() twice", Seen.all(x), fresh);
        check.due("isImplicant after clear()", x.isImplicant(5, 1), false);
    }

    private static void phases() {
        TwoLevelMinimizer x = new TwoLevelMinimizer(2, 1, 4);
        check.due("phase() at first", x.phase(), 0);
        x.addOn(5, 1);
        x.addDc(5, 1);
        x.expand();
        x.improve();
        check.due("phase() before begin()", x.phase(), 0);
        x.begin();
        check.due("phase() after begin()", x.phase(), 1);
        x.expand();
        x.irredundant();
        x.reduce();
        x.improve();
        x.addOn(5, 1);
        check.due("phase() after the passes", x.phase(), 1);
        x.begin();
        check.due("phase() after begin() again", x.phase(), 1);
        x.clear();
        check.due("phase() after clear()", x.phase(), 0);
    }
}
