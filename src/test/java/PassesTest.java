/** Promises 5 to 8: expand, irredundant, reduce and improve, on covers worked out by hand from the document. */
public final class PassesTest {
    private static final Check check = new Check("PassesTest");

    public static void main(String[] args) {
        passesKeepTheFunction();
        expandInputsInOrder();
        expandOutputsAfterInputs();
        expandDropsCubesInside();
        expandUsesDontCares();
        expandAtTheGreatestSizes();
        irredundantInOrder();
        irredundantWithOutputsAndDontCares();
        reduceInOrder();
        reduceToTheSmallestCube();
        reduceWithOutputsAndDontCares();
        reduceAtTheGreatestSizes();
        improveByCount();
        improveByLiterals();
        improveCountsBeforeLiterals();
        improveRestores();
        check.end();
    }

    private static void passesKeepTheFunction() {
        String on = "--1/6 -0-/6 0--/5 0-1/7 00-/7 ---/4";
        TwoLevelMinimizer x = Cubes.begun(3, on, "110/1");
        String before = Seen.function(x);
        for (int round = 0; round < 3; round++) {
            x.reduce();
            check.due("F after reduce()", Seen.function(x), before);
            x.expand();
            check.due("F after expand()", Seen.function(x), before);
            x.irredundant();
            check.due("F after irredundant()", Seen.function(x), before);
            x.improve();
            check.due("F after improve()", Seen.function(x), before);
            check.due("phase()", x.phase(), 1);
        }
        check.due("begin() has the on-cubes still", x.begin(), 6);
        check.due("the on-cubes after the passes", Cubes.cover(x, 3), on);
    }

    private static void after(String pass, TwoLevelMinimizer x, int answer, int inputs, String cover) {
        int got = switch (pass) {
            case "expand()" -> x.expand();
            case "irredundant()" -> x.irredundant();
            case "reduce()" -> x.reduce();
            default -> x.improve();
        };
        check.due(pass + " to [" + cover + "]", got, answer);
        check.due("the cover after " + pass, Cubes.cover(x, inputs), cover);
    }

    private static void expandInputsInOrder() {
        // 00 could become -0 or 0-; x0 is tried first. -0 swallows 10; then 01 can only become 0-.
        TwoLevelMinimizer x = Cubes.begun(1, "00/1 10/1 01/1", "");
        after("expand()", x, 2, 2, "-0/1 0-/1");
        // The positions are gone through from 0 on.
        x = Cubes.begun(1, "01/1 10/1 00/1", "");
        after("expand()", x, 2, 2, "0-/1 -0/1");
        // Each raised field is kept while the next is tried: 000 to -00, then --0, then no further.
        x = Cubes.begun(1, "000/1 --0/1 00-/1", "");
        after("expand()", x, 2, 3, "--0/1 00-/1");
        x = Cubes.begun(1, "---/1 101/1", "");
        after("expand()", x, 1, 3, "---/1");
        // Nothing can be raised.
        x = Cubes.begun(1, "11/1 00/1", "");
        after("expand()", x, 2, 2, "11/1 00/1");
        x = Cubes.begun(1, "0/1 1/1", "");
        after("expand()", x, 1, 1, "-/1");
    }

    private static void expandOutputsAfterInputs() {
        // 0/1 could become -/1 or 0/3; the input is tried first, and then output 1 is OFF at x0.
        TwoLevelMinimizer x = Cubes.begun(3, "0/1 1/1 0/2", "");
        after("expand()", x, 2, 1, "-/1 0/3");
        // Every output that can be added is added: 1 by ON, 3 by DC; 2 is OFF at 01.
        x = Cubes.begun(4, "0-/1 0-/2 00/4", "0-/8");
        after("expand()", x, 2, 2, "0-/11 00/15");
    }

    private static void expandDropsCubesInside() {
        // Equal cubes go too, and the others keep their order.
        TwoLevelMinimizer x = Cubes.begun(2, "11/1 00/2 11/1 00/2 11/1 01/3", "");
        after("expand()", x, 3, 2, "-1/1 0-/2 01/3");
        // What counts is the cube as raised, outputs and all: 00/3 swallows 00/2.
        x = Cubes.begun(2, "00/1 00/2 11/1 11/1", "");
        after("expand()", x, 2, 2, "00/3 11/1");
        // 00/3 lies in 0-/1 by its input part alone, 1-/2 in 00/3 by its mask alone: both stay.
        x = Cubes.begun(2, "0-/1 00/3 01/1 1-/2", "");
        after("expand()", x, 3, 2, "0-/1 00/3 1-/2");
    }

    private static void expandUsesDontCares() {
        TwoLevelMinimizer x = Cubes.begun(1, "00/1", "10/1 -1/1");
        after("expand()", x, 1, 2, "--/1");
        // A don't-care at another output is no help.
        x = Cubes.begun(2, "00/1", "10/2 01/1");
        after("expand()", x, 1, 2, "0-/1");
    }

    private static void expandAtTheGreatestSizes() {
        TwoLevelMinimizer x = new TwoLevelMinimizer(8, 4, 16);
        for (int k = 0; k < 16; k++) {
            // Cube k fixes x4..x7 to the bits of k, at output k mod 4 alone.
            int part = 255;
            for (int i = 0; i < 4; i++) {
                part |= (((k >> i) & 1) == 1 ? 2 : 1) << (8 + 2 * i);
            }
            check.due("addOn, the " + k + "th", x.addOn(part, 1 << (k % 4)), k);
        }
        x.begin();
        // x6 and x7 don't matter for the output, so four cubes swallow the rest.
        check.due("expand() of sixteen cubes", x.expand(), 4);
        check.due("the cover", Cubes.cover(x, 8), "----00--/1 ----10--/2 ----01--/4 ----11--/8");
        check.due("irredundant() of them", x.irredundant(), 4);
        check.due("reduce() of them", x.reduce(), 4);
        check.due("improve() of them", x.improve(), 0);
    }

    private static void irredundantInOrder() {
        TwoLevelMinimizer x = Cubes.begun(1, "-0/1 1-/1 -1/1", "");
        after("irredundant()", x, 2, 2, "-0/1 -1/1");
        // Of two equal cubes the first goes and the second stays.
        x = Cubes.begun(1, "0-/1 11/1 0-/1", "");
        after("irredundant()", x, 2, 2, "11/1 0-/1");
        x = Cubes.begun(1, "0-/1 -1/1 --/1", "");
        after("irredundant()", x, 1, 2, "--/1");
        x = Cubes.begun(1, "--/1 0-/1 -1/1", "");
        after("irredundant()", x, 1, 2, "--/1");
        // A ring in which each point lies in two cubes: a removed cube counts no more for the next.
        x = Cubes.begun(1, "-00/1 1-0/1 11-/1 -11/1 0-1/1 00-/1", "");
        after("irredundant()", x, 3, 3, "1-0/1 -11/1 00-/1");
        after("irredundant()", x, 3, 3, "1-0/1 -11/1 00-/1");
        x = Cubes.begun(1, "0-/1", "");
        after("irredundant()", x, 1, 2, "0-/1");
    }

    private static void irredundantWithOutputsAndDontCares() {
        TwoLevelMinimizer x = Cubes.begun(2, "0/1 0/3", "");
        after("irredundant()", x, 1, 1, "0/3");
        x = Cubes.begun(2, "0/3 0/1", "");
        after("irredundant()", x, 1, 1, "0/3");
        // Two cubes together cover a third, each at one output.
        x = Cubes.begun(2, "0/3 -/1 -/2", "");
        after("irredundant()", x, 2, 1, "-/1 -/2");
        // A cube without an ON point goes, be it the only one that holds its points.
        x = Cubes.begun(1, "0/1 1/1", "1/1");
        after("irredundant()", x, 1, 1, "0/1");
        x = Cubes.begun(1, "00/1 --/1", "--/1");
        after("irredundant()", x, 0, 2, "");
        // The own point of -- against 0- is 10 and 11; as don't-cares they no longer count.
        x = Cubes.begun(1, "--/1 0-/1", "1-/1");
        after("irredundant()", x, 1, 2, "0-/1");
        // A don't-care at another output doesn't touch this one.
        x = Cubes.begun(2, "0/1 1/1", "1/2");
        after("irredundant()", x, 2, 1, "0/1 1/1");
    }

    private static void reduceInOrder() {
        // 0- has 01 alone; then 00 is left to -0, which stays whole.
        TwoLevelMinimizer x = Cubes.begun(1, "0-/1 -0/1", "");
        after("reduce()", x, 2, 2, "01/1 -0/1");
        x = Cubes.begun(1, "-0/1 0-/1", "");
        after("reduce()", x, 2, 2, "10/1 0-/1");
        // Of equal cubes the first have nothing of their own and go.
        x = Cubes.begun(1, "0-/1 0-/1 0-/1", "");
        after("reduce()", x, 1, 2, "0-/1");
        // The ring: the first goes, each next one keeps what a cut-down cube before it has left, and
        // the last has both of its points, one of them from the cube that went.
        x = Cubes.begun(1, "-00/1 1-0/1 11-/1 -11/1 0-1/1 00-/1", "");
        after("reduce()", x, 5, 3, "100/1 110/1 111/1 011/1 00-/1");
        // --- holds 1-1 apart from -10, 0-- and 100: the first is cut down, the later ones then stay.
        x = Cubes.begun(1, "---/1 -10/1 0--/1 100/1", "");
        after("reduce()", x, 4, 3, "1-1/1 110/1 0--/1 100/1");
    }

    private static void reduceToTheSmallestCube() {
        // The own points 00 and 11 need the whole cube; the others then have none of their own.
        TwoLevelMinimizer x = Cubes.begun(1, "--/1 10/1 01/1", "");
        after("reduce()", x, 1, 2, "--/1");
        x = Cubes.begun(2, "-/3 1/1 0/2", "");
        after("reduce()", x, 1, 1, "-/3");
        x = Cubes.begun(1, "101/1", "");
        after("reduce()", x, 1, 3, "101/1");
    }

    private static void reduceWithOutputsAndDontCares() {
        TwoLevelMinimizer x = Cubes.begun(2, "0/3 -/1", "");
        after("reduce()", x, 2, 1, "0/2 -/1");
        // Output 1 is left to -/2; output 2 is kept for x0, and so 0/4 has nothing of its own.
        x = Cubes.begun(3, "-/7 -/2 0/4", "");
        after("reduce()", x, 2, 1, "-/5 -/2");
        // Don't-cares are no reason to keep a cube or a part of it.
        x = Cubes.begun(1, "--/1", "1-/1");
        after("reduce()", x, 1, 2, "0-/1");
        x = Cubes.begun(2, "1/3", "1/2");
        after("reduce()", x, 1, 1, "1/1");
        x = Cubes.begun(1, "0-/1 -0/1", "01/1");
        after("reduce()", x, 1, 2, "-0/1");
        x = Cubes.begun(1, "0-/1 1-/1", "--/1");
        after("reduce()", x, 0, 2, "");
    }

    private static void reduceAtTheGreatestSizes() {
        TwoLevelMinimizer x = Cubes.begun(4, "--------/15 -------0/15", "");
        after("reduce()", x, 2, 8, "-------1/15 -------0/15");
        check.due("cubeInputs(0) has no bit past its sixteenth", x.cubeInputs(0), 49151);
        check.due("cubeInputs(1) has no bit past its sixteenth", x.cubeInputs(1), 32767);
        x = new TwoLevelMinimizer(8, 4, 16);
        for (int k = 0; k < 16; k++) {
            x.addOn(65535, 15);
        }
        x.begin();
        after("reduce()", x, 1, 8, "--------/15");
    }

    private static void improveByCount() {
        // reduce: 11/2 10/2 00/3; expand: 1-/2 00/3. From (3, 5) to (2, 3).
        TwoLevelMinimizer x = Cubes.begun(2, "11/3 -0/2 00/3", "11/1");
        after("improve()", x, 1, 2, "1-/2 00/3");
        after("improve()", x, 0, 2, "1-/2 00/3");
        // reduce leaves nothing, from (1, 0) to (0, 0); then the cover is empty.
        x = Cubes.begun(1, "-/1", "-/1");
        after("improve()", x, 1, 1, "");
        after("improve()", x, 0, 1, "");
    }

    private static void improveByLiterals() {
        // reduce: 01/1 -1/2; expand: 0-/1 -1/2. From (2, 3) to (2, 2).
        TwoLevelMinimizer x = Cubes.begun(2, "01/3 -1/2", "-0/1");
        after("improve()", x, 1, 2, "0-/1 -1/2");
        after("improve()", x, 0, 2, "0-/1 -1/2");
        // From (1, 1) to (1, 0).
        x = Cubes.begun(1, "0/1", "1/1");
        after("improve()", x, 1, 1, "-/1");
    }

    private static void improveCountsBeforeLiterals() {
        // reduce: 111/2 10-/2 010/1 011/3 00-/3 ---/4; expand: --1/6 -0-/6 -10/5 0-1/7 00-/7 ---/4;
        // irredundant takes the last away. From (6, 7) to (5, 8): more literals, but fewer cubes.
        TwoLevelMinimizer x = Cubes.begun(3, "--1/6 -0-/6 0--/5 0-1/7 00-/7 ---/4", "110/1");
        check.due("literalCount() before", x.literalCount(), 7);
        after("improve()", x, 1, 3, "--1/6 -0-/6 -10/5 0-1/7 00-/7");
        check.due("literalCount() after", x.literalCount(), 8);
    }

    private static void improveRestores() {
        // reduce, expand and irredundant would give -0/1 11/3, which costs as much.
        TwoLevelMinimizer x = Cubes.begun(2, "1-/1 11/3", "00/1");
        after("improve()", x, 0, 2, "1-/1 11/3");
        // They would give 000/3 -00/1 1-1/3, with one literal more.
        x = Cubes.begun(2, "000/3 1--/1 1-1/3", "110/1");
        after("improve()", x, 0, 3, "000/3 1--/1 1-1/3");
        after("improve()", x, 0, 3, "000/3 1--/1 1-1/3");
        // They would give 1/3, which costs as much.
        x = Cubes.begun(2, "1/2", "1/1");
        after("improve()", x, 0, 1, "1/2");
    }
}
