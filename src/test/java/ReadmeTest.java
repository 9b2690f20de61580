/** The calls and the tables of README.md: what it tells a reader must be what the program answers. */
public final class ReadmeTest {
    private static final Check check = new Check("ReadmeTest");

    public static void main(String[] args) {
        check.sentence("An example", ReadmeTest::example);
        check.sentence("The constructor", ReadmeTest::constructor);
        check.sentence("Adding cubes", ReadmeTest::addingCubes);
        check.sentence("begin", ReadmeTest::begin);
        check.sentence("The passes", ReadmeTest::passes);
        check.sentence("The passes: a usual run", ReadmeTest::usualRun);
        check.sentence("Reading the cover", ReadmeTest::readingTheCover);
        check.sentence("Reading the function", ReadmeTest::readingTheFunction);
        check.sentence("The phase, and starting again", ReadmeTest::startingAgain);
        check.sentence("Constants", ReadmeTest::constants);
        check.sentence("Refused calls", ReadmeTest::refusedCalls);
        check.end();
    }

    private static void example() {
        TwoLevelMinimizer x = new TwoLevelMinimizer(3, 1, 16);
        check.due("addOn(0b100110, 1)", x.addOn(0b100110, 1), 0);
        check.due("addOn(0b010110, 1)", x.addOn(0b010110, 1), 1);
        check.due("addDc(0b101010, 1)", x.addDc(0b101010, 1), 0);
        check.due("begin()", x.begin(), 2);
        check.due("expand()", x.expand(), 2);
        check.due("the cover raised", Cubes.cover(x, 3), "1-1/1 10-/1");
        check.due("irredundant()", x.irredundant(), 1);
        check.due("improve()", x.improve(), 0);
        check.due("cubeCount()", x.cubeCount(), 1);
        check.due("cubeInputs(0)", x.cubeInputs(0), 0b110110);
        check.due("cubeOutputs(0)", x.cubeOutputs(0), 1);
        check.due("literalCount()", x.literalCount(), 2);
        check.due("evaluate(0b001, 0)", x.evaluate(0b001, 0), 1);
        check.due("function(0b111, 0)", x.function(0b111, 0), 2);
        check.due("isImplicant(0b100110, 1)", x.isImplicant(0b100110, 1), true);
        x.clear();
        check.due("phase() after clear()", x.phase(), TwoLevelMinimizer.FEEDING);
        check.due("function(0b001, 0) after clear()", x.function(0b001, 0), TwoLevelMinimizer.OFF);
    }

    private static void constructor() {
        Sizes.all(check, "new(0, 9, 100):", new TwoLevelMinimizer(0, 9, 100), 1, 4, 16);
        Sizes.all(check, "new(9, 0, 3):", new TwoLevelMinimizer(9, 0, 3), 8, 1, 4);
        Sizes.all(check, "new(3, 2, 5):", new TwoLevelMinimizer(3, 2, 5), 3, 2, 5);
        check.due("phase() at first", new TwoLevelMinimizer(3, 2, 5).phase(), TwoLevelMinimizer.FEEDING);
    }

    private static void addingCubes() {
        TwoLevelMinimizer x = new TwoLevelMinimizer(2, 1, 4);
        for (int k = 0; k < 4; k++) {
            check.due("the same on-cube, time " + k, x.addOn(Cubes.part("1-"), 1), k);
        }
        check.due("with the on-store full, addOn", x.addOn(Cubes.part("1-"), 1), TwoLevelMinimizer.ERR_FULL);
        check.due("with the on-store full, addDc", x.addDc(Cubes.part("11"), 1), 0);
        check.due("in both an on-cube and a dc-cube", x.function(3, 0), TwoLevelMinimizer.DC);
        check.due("in an on-cube alone", x.function(1, 0), TwoLevelMinimizer.ON);
    }

    private static void begin() {
        TwoLevelMinimizer x = Cubes.fed(1, "00/1 10/1 00/1", "11/1");
        check.due("begin()", x.begin(), 3);
        check.due("phase()", x.phase(), TwoLevelMinimizer.WORKING);
        check.due("the cover", Cubes.cover(x, 2), "00/1 10/1 00/1");
        check.due("expand()", x.expand(), 1);
        check.due("begin() again", x.begin(), 3);
        check.due("the cover again", Cubes.cover(x, 2), "00/1 10/1 00/1");
    }

    private static void passes() {
        TwoLevelMinimizer x = Cubes.begun(2, "00/1 10/1 01/2", "01/1");
        check.due("expand()", x.expand(), 2);
        check.due("expanded, input 0 first", Cubes.cover(x, 2), "-0/1 01/3");
        x = Cubes.begun(1, "0-/1 -1/1 1-/1", "");
        check.due("irredundant()", x.irredundant(), 2);
        check.due("without the one inside the others", Cubes.cover(x, 2), "0-/1 1-/1");
        x = Cubes.begun(1, "0-/1 -0/1 00/1", "");
        check.due("reduce()", x.reduce(), 3);
        check.due("shrunk", Cubes.cover(x, 2), "01/1 10/1 00/1");
        x = Cubes.begun(2, "11/3 -0/2 00/3", "11/1");
        check.due("improve()", x.improve(), TwoLevelMinimizer.IMPROVED);
        check.due("improved", Cubes.cover(x, 2), "1-/2 00/3");
        check.due("improve() again", x.improve(), TwoLevelMinimizer.NOT_IMPROVED);
        check.due("as before", Cubes.cover(x, 2), "1-/2 00/3");
    }

    private static void usualRun() {
        Sequence numbers = new Sequence(8L);
        int improved = 0;
        for (int run = 0; run < 300; run++) {
            TwoLevelMinimizer x = new TwoLevelMinimizer(4, 2, 16);
            for (int k = 0; k < 12; k++) {
                x.addOn(numbers.part(4, 2), numbers.mask(2));
            }
            x.addDc(numbers.part(4, 4), numbers.mask(2));
            x.begin();
            x.expand();
            x.irredundant();
            int rounds = 0;
            // The bound is for a broken program: each round lowers the cost, and no cost is above 16 * 65.
            while (rounds < 2000 && x.improve() == TwoLevelMinimizer.IMPROVED) {
                rounds++;
            }
            check.due("run " + run + " ended", rounds < 2000, true);
            Holds holds = new Holds(check, x, 4, 2);
            holds.coverIsTheFunction("a usual run");
            holds.everyCubeIsNeeded("a usual run");
            improved += rounds;
        }
        check.due("some runs were improved", improved > 0, true);
    }

    private static void readingTheCover() {
        TwoLevelMinimizer x = Cubes.fed(2, "1-0/3 01-/2", "");
        check.due("FEEDING: cubeCount()", x.cubeCount(), 0);
        x.begin();
        check.due("cubeCount()", x.cubeCount(), 2);
        check.due("cubeInputs(0)", x.cubeInputs(0), Cubes.part("1-0"));
        check.due("cubeOutputs(0)", x.cubeOutputs(0), 3);
        check.due("cubeInputs(1)", x.cubeInputs(1), Cubes.part("01-"));
        check.due("cubeOutputs(1)", x.cubeOutputs(1), 2);
        check.due("literalCount()", x.literalCount(), 4);
        check.due("evaluate(0b011, 0)", x.evaluate(0b011, 0), 1);
        check.due("evaluate(0b110, 1)", x.evaluate(0b110, 1), 1);
        check.due("evaluate(0b110, 0)", x.evaluate(0b110, 0), 0);
    }

    private static void readingTheFunction() {
        TwoLevelMinimizer x = Cubes.fed(1, "1-/1", "11/1");
        for (int round = 0; round < 3; round++) {
            check.due("function(0b00, 0)", x.function(0b00, 0), TwoLevelMinimizer.OFF);
            check.due("function(0b01, 0)", x.function(0b01, 0), TwoLevelMinimizer.ON);
            check.due("function(0b11, 0)", x.function(0b11, 0), TwoLevelMinimizer.DC);
            check.due("isImplicant 1-", x.isImplicant(Cubes.part("1-"), 1), true);
            check.due("isImplicant -0", x.isImplicant(Cubes.part("-0"), 1), false);
            if (round == 0) {
                x.begin();
            } else {
                x.reduce();
            }
        }
    }

    private static void startingAgain() {
        TwoLevelMinimizer x = Cubes.begun(2, "1-0/3 01-/2", "111/1");
        check.due("phase()", x.phase(), TwoLevelMinimizer.WORKING);
        x.clear();
        check.due("phase() after clear()", x.phase(), TwoLevelMinimizer.FEEDING);
        check.due("what is seen", Seen.all(x), Seen.all(new TwoLevelMinimizer(3, 2, 16)));
        Sizes.all(check, "cleared:", x, 3, 2, 16);
    }

    private static void constants() {
        check.due("FEEDING", TwoLevelMinimizer.FEEDING, 0);
        check.due("WORKING", TwoLevelMinimizer.WORKING, 1);
        check.due("OFF", TwoLevelMinimizer.OFF, 0);
        check.due("ON", TwoLevelMinimizer.ON, 1);
        check.due("DC", TwoLevelMinimizer.DC, 2);
        check.due("NOT_IMPROVED", TwoLevelMinimizer.NOT_IMPROVED, 0);
        check.due("IMPROVED", TwoLevelMinimizer.IMPROVED, 1);
        check.due("ERR_PHASE", TwoLevelMinimizer.ERR_PHASE, -1);
        check.due("ERR_CUBE", TwoLevelMinimizer.ERR_CUBE, -2);
        check.due("ERR_OUTPUTS", TwoLevelMinimizer.ERR_OUTPUTS, -3);
        check.due("ERR_FULL", TwoLevelMinimizer.ERR_FULL, -4);
        check.due("ERR_RANGE", TwoLevelMinimizer.ERR_RANGE, -5);
    }

    private static void refusedCalls() {
        TwoLevelMinimizer x = new TwoLevelMinimizer(2, 2, 4);
        check.due("expand() while FEEDING", x.expand(), TwoLevelMinimizer.ERR_PHASE);
        check.due("irredundant() while FEEDING", x.irredundant(), TwoLevelMinimizer.ERR_PHASE);
        check.due("reduce() while FEEDING", x.reduce(), TwoLevelMinimizer.ERR_PHASE);
        check.due("improve() while FEEDING", x.improve(), TwoLevelMinimizer.ERR_PHASE);
        for (int k = 0; k < 4; k++) {
            x.addOn(15, 3);
            x.addDc(15, 1);
        }
        check.due("a wrong part, a wrong mask, a full store", x.addOn(0, 0), TwoLevelMinimizer.ERR_CUBE);
        check.due("a wrong part, a wrong mask, a full store", x.addDc(0, 0), TwoLevelMinimizer.ERR_CUBE);
        check.due("a wrong mask, a full store", x.addOn(15, 4), TwoLevelMinimizer.ERR_OUTPUTS);
        check.due("a wrong mask, a full store", x.addDc(15, 4), TwoLevelMinimizer.ERR_OUTPUTS);
        check.due("a full store", x.addOn(15, 3), TwoLevelMinimizer.ERR_FULL);
        check.due("a full store", x.addDc(15, 3), TwoLevelMinimizer.ERR_FULL);
        x.begin();
        check.due("all of these while WORKING", x.addOn(0, 0), TwoLevelMinimizer.ERR_PHASE);
        check.due("all of these while WORKING", x.addDc(0, 0), TwoLevelMinimizer.ERR_PHASE);
        check.due("cubeInputs(4) of four", x.cubeInputs(4), TwoLevelMinimizer.ERR_RANGE);
        check.due("cubeOutputs(-1)", x.cubeOutputs(-1), TwoLevelMinimizer.ERR_RANGE);
        check.due("evaluate(4, 0)", x.evaluate(4, 0), TwoLevelMinimizer.ERR_RANGE);
        check.due("function(0, 2)", x.function(0, 2), TwoLevelMinimizer.ERR_RANGE);
        check.due("isImplicant(0, 1)", x.isImplicant(0, 1), false);
        check.due("isImplicant(15, 4)", x.isImplicant(15, 4), false);
    }
}
