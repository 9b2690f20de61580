import java.util.ArrayList;
import java.util.List;
import java.util.function.ToIntFunction;

/** What the document says before its promises: the terms, the function, the cover and the phases. */
public final class TermsTest {
    private static final Check check = new Check("TermsTest");
    private static final int LEAST = Integer.MIN_VALUE;
    private static final int GREATEST = Integer.MAX_VALUE;

    public static void main(String[] args) {
        check.sentence("minterm: an int 0..2^n-1", TermsTest::minterms);
        check.sentence("point: o an output 0..q-1", TermsTest::outputs);
        check.sentence("VALID: >= 0, no bit at 2n or above, no field 00", TermsTest::validParts);
        check.sentence("VALID: the document's example, 54", TermsTest::exampleOfTheDocument);
        check.sentence("VALID: 1 <= mask <= 2^q - 1", TermsTest::validMasks);
        check.sentence("CONTAINS: for every i<n, bit (2i + bit i of m) of I", TermsTest::everyInputCounts);
        check.sentence("CONTAINS: bit o of O", TermsTest::everyOutputCounts);
        check.sentence("F: DC, otherwise ON, otherwise OFF", TermsTest::threeValues);
        check.sentence("F: always taken over the cubes added so far", TermsTest::cubesSoFar);
        check.sentence("IMPLICANT: no point with F(m,o) = OFF", TermsTest::everyCubeOfEveryFunction);
        check.sentence("cover: at most cap cubes at positions 0..count-1", TermsTest::positions);
        check.sentence("cover: empty after construction and after clear()", TermsTest::emptyAtFirst);
        check.sentence("cover: removing keeps the order, by expand", () -> removing(true, TwoLevelMinimizer::expand));
        check.sentence("cover: removing keeps the order, by irredundant",
                () -> removing(false, TwoLevelMinimizer::irredundant));
        check.sentence("cover: removing keeps the order, by reduce", () -> removing(false, TwoLevelMinimizer::reduce));
        check.sentence("LITERALS: the inputs whose field is 01 or 10", TermsTest::everyPartsLiterals);
        check.sentence("FEEDING: cubes may be added", TermsTest::addingWhileFeeding);
        check.sentence("FEEDING: the cover passes are refused", TermsTest::passesWhileFeeding);
        check.sentence("WORKING: adding is refused", TermsTest::addingWhileWorking);
        check.sentence("any refused call answers its error code", TermsTest::refusedCallsAnswer);
        check.sentence("any refused call changes nothing", TermsTest::refusedCallsChangeNothing);
        check.end();
    }

    // The terms

    private static void minterms() {
        for (int n = 1; n <= 8; n++) {
            TwoLevelMinimizer x = new TwoLevelMinimizer(n, 1, 4);
            x.addOn(Cubes.every(n, 3), 1);
            x.begin();
            for (int m = -300; m <= 300; m++) {
                int due = m >= 0 && m < 1 << n ? 1 : -5;
                check.due("n = " + n + ": evaluate(" + m + ", 0)", x.evaluate(m, 0), due);
                check.due("n = " + n + ": function(" + m + ", 0)", x.function(m, 0), due);
            }
        }
    }

    private static void outputs() {
        for (int q = 1; q <= 4; q++) {
            TwoLevelMinimizer x = new TwoLevelMinimizer(1, q, 4);
            x.addOn(3, (1 << q) - 1);
            x.begin();
            for (int o = -70; o <= 70; o++) {
                int due = o >= 0 && o < q ? 1 : -5;
                check.due("q = " + q + ": evaluate(0, " + o + ")", x.evaluate(0, o), due);
                check.due("q = " + q + ": function(0, " + o + ")", x.function(0, o), due);
            }
        }
    }

    private static boolean isPart(int part, int n) {
        if (part < 0 || part >= 1 << (2 * n)) {
            return false;
        }
        for (int i = 0; i < n; i++) {
            if (((part >> (2 * i)) & 3) == 0) {
                return false;
            }
        }
        return true;
    }

    // Each of the three calls that take a cube has the same notion of a valid one.
    private static void asCube(int n, int q, int part, int mask, boolean validPart, boolean validMask) {
        int due = !validPart ? -2 : !validMask ? -3 : 1;
        String given = "(" + part + ", " + mask + ") with n = " + n + ", q = " + q;
        TwoLevelMinimizer x = new TwoLevelMinimizer(n, q, 4);
        x.addOn(Cubes.every(n, 3), (1 << q) - 1);
        x.addDc(Cubes.every(n, 1), 1);
        check.due("isImplicant" + given, x.isImplicant(part, mask), validPart && validMask);
        check.due("addOn" + given, x.addOn(part, mask), due);
        check.due("addDc" + given, x.addDc(part, mask), due);
    }

    private static void validParts() {
        for (int n = 1; n <= 3; n++) {
            int bound = 1 << (2 * n + 3);
            for (int part = -bound; part <= bound; part++) {
                asCube(n, 1, part, 1, isPart(part, n), true);
            }
        }
        for (int n = 1; n <= 8; n++) {
            for (int low : new int[] {Cubes.every(n, 1), Cubes.every(n, 2), Cubes.every(n, 3)}) {
                asCube(n, 2, low, 3, true, true);
                for (int bit = 0; bit < 32; bit++) {
                    int part = low ^ (1 << bit);
                    asCube(n, 2, part, 3, isPart(part, n), true);
                }
            }
            asCube(n, 2, LEAST, 3, false, true);
            asCube(n, 2, GREATEST, 3, false, true);
            asCube(n, 2, -1, 3, false, true);
            asCube(n, 2, 0, 3, false, true);
        }
    }

    private static void exampleOfTheDocument() {
        // x0 x1': the minterms 1 and 5, for x2 is absent.
        TwoLevelMinimizer x = new TwoLevelMinimizer(3, 1, 4);
        check.due("addOn(54, 1)", x.addOn(54, 1), 0);
        check.due("F", Seen.function(x), "01000100");
        x.begin();
        check.due("the cover", Cubes.cover(x, 3), "10-/1");
        check.due("the cover's points", Seen.evaluation(x), "01000100");
        check.due("literalCount()", x.literalCount(), 2);
        check.due("isImplicant(54, 1)", x.isImplicant(54, 1), true);
    }

    private static void validMasks() {
        for (int q = 1; q <= 4; q++) {
            for (int mask = -70; mask <= 70; mask++) {
                asCube(2, q, 15, mask, true, mask >= 1 && mask < 1 << q);
            }
            for (int bit = 0; bit < 32; bit++) {
                asCube(2, q, 15, 1 << bit, true, bit < q);
            }
            asCube(2, q, 15, LEAST + 1, true, false);
            asCube(2, q, 15, GREATEST, true, false);
            asCube(2, q, 0, 0, false, false);
        }
    }

    private static void everyInputCounts() {
        for (int n = 1; n <= 8; n++) {
            for (int i = 0; i < n; i++) {
                for (int field = 1; field <= 3; field++) {
                    TwoLevelMinimizer x = new TwoLevelMinimizer(n, 1, 4);
                    x.addOn((Cubes.every(n, 3) & ~(3 << (2 * i))) | (field << (2 * i)), 1);
                    x.begin();
                    for (int m = 0; m < 1 << n; m++) {
                        int due = (field >> ((m >> i) & 1)) & 1;
                        String where = "n = " + n + ", field " + i + " is " + field + ", minterm " + m;
                        check.due(where + ": evaluate", x.evaluate(m, 0), due);
                        check.due(where + ": function", x.function(m, 0), due);
                    }
                }
            }
        }
    }

    private static void everyOutputCounts() {
        for (int q = 1; q <= 4; q++) {
            for (int mask = 1; mask < 1 << q; mask++) {
                TwoLevelMinimizer x = new TwoLevelMinimizer(1, q, 4);
                x.addOn(1, mask);
                x.addDc(2, mask);
                x.begin();
                for (int o = 0; o < q; o++) {
                    int bit = (mask >> o) & 1;
                    check.due("mask " + mask + ": evaluate(0, " + o + ")", x.evaluate(0, o), bit);
                    check.due("mask " + mask + ": function(0, " + o + ")", x.function(0, o), bit);
                    check.due("mask " + mask + ": function(1, " + o + ")", x.function(1, o), 2 * bit);
                }
            }
        }
    }

    // The function

    private static void threeValues() {
        for (int first = 0; first < 2; first++) {
            TwoLevelMinimizer x = new TwoLevelMinimizer(2, 1, 4);
            // 00 in no cube, 10 in an on-cube, 01 in a dc-cube, 11 in both; either store may come first.
            if (first == 0) {
                x.addOn(Cubes.part("1-"), 1);
            }
            x.addDc(Cubes.part("-1"), 1);
            if (first == 1) {
                x.addOn(Cubes.part("1-"), 1);
            }
            check.due("FEEDING", Seen.function(x), "0122");
            x.begin();
            check.due("WORKING", Seen.function(x), "0122");
        }
    }

    private static void cubesSoFar() {
        TwoLevelMinimizer x = new TwoLevelMinimizer(1, 2, 4);
        check.due("no cubes", Seen.function(x), "00 00");
        x.addOn(1, 1);
        check.due("one on-cube", Seen.function(x), "10 00");
        x.addDc(3, 2);
        check.due("a dc-cube", Seen.function(x), "10 22");
        x.addOn(3, 3);
        check.due("a second on-cube", Seen.function(x), "11 22");
        x.addDc(2, 1);
        check.due("a second dc-cube", Seen.function(x), "12 22");
        x.clear();
        check.due("cleared", Seen.function(x), "00 00");
        x.addOn(2, 2);
        check.due("an on-cube after that", Seen.function(x), "00 01");
    }

    // Four points, each OFF, ON or DC; every cube of such a function is asked for.
    private static void everyCubeOfEveryFunction() {
        for (int number = 0; number < 81; number++) {
            int[] values = {number % 3, number / 3 % 3, number / 9 % 3, number / 27};
            TwoLevelMinimizer twoInputs = new TwoLevelMinimizer(2, 1, 4);
            TwoLevelMinimizer twoOutputs = new TwoLevelMinimizer(1, 2, 4);
            for (int p = 0; p < 4; p++) {
                int low = p % 2;
                int high = p / 2;
                if (values[p] == 1) {
                    twoInputs.addOn((1 << low) | (4 << high), 1);
                    twoOutputs.addOn(1 << low, 1 << high);
                } else if (values[p] == 2) {
                    twoInputs.addDc((1 << low) | (4 << high), 1);
                    twoOutputs.addDc(1 << low, 1 << high);
                }
            }
            for (int a = 1; a <= 3; a++) {
                for (int b = 1; b <= 3; b++) {
                    String which = "function " + number + ": isImplicant " + a + ", " + b;
                    boolean due = !holdsOff(values, a, b);
                    check.due(which + " of two inputs", twoInputs.isImplicant(a | (b << 2), 1), due);
                    check.due(which + " of two outputs", twoOutputs.isImplicant(a, b), due);
                }
            }
        }
    }

    private static boolean holdsOff(int[] values, int a, int b) {
        for (int p = 0; p < 4; p++) {
            boolean held = ((a >> (p % 2)) & 1) == 1 && ((b >> (p / 2)) & 1) == 1;
            if (held && values[p] == 0) {
                return true;
            }
        }
        return false;
    }

    // The cover

    // The minterm k of four inputs.
    private static int partOf(int k) {
        int part = 0;
        for (int i = 0; i < 4; i++) {
            part |= 1 << (2 * i + ((k >> i) & 1));
        }
        return part;
    }

    private static void positions() {
        for (int cap = 4; cap <= 16; cap++) {
            for (int given = 0; given <= 18; given++) {
                TwoLevelMinimizer x = new TwoLevelMinimizer(4, 1, cap);
                for (int k = 0; k < given; k++) {
                    x.addOn(partOf(k), 1);
                }
                int count = Math.min(given, cap);
                check.due("cap = " + cap + ", " + given + " cubes: begin()", x.begin(), count);
                check.due("cap = " + cap + ", " + given + " cubes: cubeCount()", x.cubeCount(), count);
                for (int k = 0; k < 18; k++) {
                    check.due("cubeInputs(" + k + ")", x.cubeInputs(k), k < count ? partOf(k) : -5);
                    check.due("cubeOutputs(" + k + ")", x.cubeOutputs(k), k < count ? 1 : -5);
                }
            }
        }
    }

    private static void emptyAtFirst() {
        for (int cap = 4; cap <= 16; cap++) {
            TwoLevelMinimizer x = new TwoLevelMinimizer(4, 2, cap);
            for (int round = 0; round < 3; round++) {
                check.due("round " + round + ": cubeCount()", x.cubeCount(), 0);
                check.due("round " + round + ": cubeInputs(0)", x.cubeInputs(0), -5);
                check.due("round " + round + ": cubeOutputs(0)", x.cubeOutputs(0), -5);
                check.due("round " + round + ": literalCount()", x.literalCount(), 0);
                check.due("round " + round + ": its points", Seen.evaluation(x).contains("1"), false);
                for (int k = 0; k < cap; k++) {
                    x.addOn(partOf(k), 3);
                }
                x.begin();
                check.due("round " + round + ", begun: cubeCount()", x.cubeCount(), cap);
                x.clear();
            }
        }
    }

    // Minterms two steps from each other can't be raised or shrunk: the pass only takes one of the equal two away.
    private static void removing(boolean keepsTheFirst, ToIntFunction<TwoLevelMinimizer> pass) {
        List<Integer> apart = List.of(0, 3, 5, 6, 9, 10, 12, 15);
        for (int twice : apart) {
            for (int at = 0; at <= apart.size(); at++) {
                List<Integer> cubes = new ArrayList<>(apart);
                cubes.add(at, twice);
                TwoLevelMinimizer x = new TwoLevelMinimizer(4, 1, 9);
                for (int m : cubes) {
                    x.addOn(partOf(m), 1);
                }
                x.begin();
                String before = cubes.toString();
                cubes.remove(keepsTheFirst ? cubes.lastIndexOf(twice) : cubes.indexOf(twice));
                check.due("the pass on minterms " + before, pass.applyAsInt(x), cubes.size());
                check.due("the cover after minterms " + before, Seen.cover(x), listed(cubes));
            }
        }
    }

    private static String listed(List<Integer> minterms) {
        StringBuilder text = new StringBuilder();
        for (int m : minterms) {
            text.append(partOf(m)).append("/1 ");
        }
        return text.toString().trim();
    }

    private static void everyPartsLiterals() {
        for (int n = 1; n <= 8; n++) {
            TwoLevelMinimizer x = new TwoLevelMinimizer(n, 1, 4);
            for (int part = 0; part < 1 << (2 * n); part++) {
                if (isPart(part, n)) {
                    int literals = 0;
                    for (int i = 0; i < n; i++) {
                        literals += ((part >> (2 * i)) & 3) == 3 ? 0 : 1;
                    }
                    x.clear();
                    x.addOn(part, 1);
                    x.addOn(part, 1);
                    x.begin();
                    check.due("n = " + n + ", twice " + part, x.literalCount(), 2 * literals);
                }
            }
        }
    }

    // The phases

    private static void addingWhileFeeding() {
        for (int cap = 4; cap <= 16; cap++) {
            TwoLevelMinimizer x = new TwoLevelMinimizer(2, 1, cap);
            for (int round = 0; round < 2; round++) {
                for (int k = 0; k < cap; k++) {
                    check.due("addOn", x.addOn(9, 1), k);
                    check.due("addDc", x.addDc(6, 1), k);
                }
                x.begin();
                x.clear();
            }
        }
    }

    private static void passesWhileFeeding() {
        int state = 0;
        for (TwoLevelMinimizer x : States.feeding()) {
            check.due("state " + state + ": expand()", x.expand(), -1);
            check.due("state " + state + ": irredundant()", x.irredundant(), -1);
            check.due("state " + state + ": reduce()", x.reduce(), -1);
            check.due("state " + state + ": improve()", x.improve(), -1);
            state++;
        }
    }

    private static List<TwoLevelMinimizer> working() {
        List<TwoLevelMinimizer> states = States.feeding();
        for (TwoLevelMinimizer x : states) {
            x.begin();
        }
        List<TwoLevelMinimizer> passed = States.feeding();
        for (TwoLevelMinimizer x : passed) {
            x.begin();
            x.expand();
            x.irredundant();
        }
        states.addAll(passed);
        states.addAll(States.emptyCovers());
        return states;
    }

    private static void addingWhileWorking() {
        int state = 0;
        for (TwoLevelMinimizer x : working()) {
            for (int n = 1; n <= 8; n++) {
                check.due("state " + state + ": addOn", x.addOn(Cubes.every(n, 3), 1), -1);
                check.due("state " + state + ": addDc", x.addDc(Cubes.every(n, 3), 1), -1);
            }
            state++;
        }
    }

    /** A call that is refused, whatever the sizes are, and the code that it answers then. */
    private record Refused(String name, int code, ToIntFunction<TwoLevelMinimizer> call) {
    }

    // These are refused in either phase.
    private static List<Refused> refusedReading() {
        return List.of(
                new Refused("cubeInputs(-1)", -5, x -> x.cubeInputs(-1)),
                new Refused("cubeInputs(16)", -5, x -> x.cubeInputs(16)),
                new Refused("cubeInputs(MIN_VALUE)", -5, x -> x.cubeInputs(LEAST)),
                new Refused("cubeOutputs(-1)", -5, x -> x.cubeOutputs(-1)),
                new Refused("cubeOutputs(16)", -5, x -> x.cubeOutputs(16)),
                new Refused("cubeOutputs(MAX_VALUE)", -5, x -> x.cubeOutputs(GREATEST)),
                new Refused("evaluate(-1, 0)", -5, x -> x.evaluate(-1, 0)),
                new Refused("evaluate(256, 0)", -5, x -> x.evaluate(256, 0)),
                new Refused("evaluate(0, -1)", -5, x -> x.evaluate(0, -1)),
                new Refused("evaluate(0, 4)", -5, x -> x.evaluate(0, 4)),
                new Refused("function(-1, 0)", -5, x -> x.function(-1, 0)),
                new Refused("function(256, 0)", -5, x -> x.function(256, 0)),
                new Refused("function(0, -1)", -5, x -> x.function(0, -1)),
                new Refused("function(0, 4)", -5, x -> x.function(0, 4)));
    }

    private static List<Refused> refusedWhileFeeding() {
        List<Refused> calls = new ArrayList<>(refusedReading());
        calls.add(new Refused("addOn(-1, 1)", -2, x -> x.addOn(-1, 1)));
        calls.add(new Refused("addOn(0, 1)", -2, x -> x.addOn(0, 1)));
        calls.add(new Refused("addOn(65536, 0)", -2, x -> x.addOn(65536, 0)));
        calls.add(new Refused("addDc(-1, 1)", -2, x -> x.addDc(-1, 1)));
        calls.add(new Refused("addDc(0, 1)", -2, x -> x.addDc(0, 1)));
        calls.add(new Refused("addDc(65536, 0)", -2, x -> x.addDc(65536, 0)));
        calls.add(new Refused("addOn(all, 0)", -3, x -> x.addOn(allOf(x), 0)));
        calls.add(new Refused("addOn(all, 16)", -3, x -> x.addOn(allOf(x), 16)));
        calls.add(new Refused("addDc(all, 0)", -3, x -> x.addDc(allOf(x), 0)));
        calls.add(new Refused("addDc(all, 16)", -3, x -> x.addDc(allOf(x), 16)));
        calls.add(new Refused("expand()", -1, x -> x.expand()));
        calls.add(new Refused("irredundant()", -1, x -> x.irredundant()));
        calls.add(new Refused("reduce()", -1, x -> x.reduce()));
        calls.add(new Refused("improve()", -1, x -> x.improve()));
        return calls;
    }

    private static List<Refused> refusedWhileWorking() {
        List<Refused> calls = new ArrayList<>(refusedReading());
        calls.add(new Refused("addOn(-1, 0)", -1, x -> x.addOn(-1, 0)));
        calls.add(new Refused("addOn(all, 1)", -1, x -> x.addOn(allOf(x), 1)));
        calls.add(new Refused("addDc(0, 16)", -1, x -> x.addDc(0, 16)));
        calls.add(new Refused("addDc(all, 1)", -1, x -> x.addDc(allOf(x), 1)));
        return calls;
    }

    // The input part without a literal, whatever the number of inputs.
    private static int allOf(TwoLevelMinimizer x) {
        int n = 1;
        while (n < 8 && x.function(1 << n, 0) >= 0) {
            n++;
        }
        return Cubes.every(n, 3);
    }

    private static void refusedCallsAnswer() {
        answer("FEEDING", States.feeding(), refusedWhileFeeding());
        answer("WORKING", working(), refusedWhileWorking());
        for (int cap = 4; cap <= 16; cap++) {
            TwoLevelMinimizer x = full(cap);
            check.due("full: addOn", x.addOn(15, 1), -4);
            check.due("full: addDc", x.addDc(15, 1), -4);
        }
    }

    private static void answer(String phase, List<TwoLevelMinimizer> states, List<Refused> calls) {
        for (int state = 0; state < states.size(); state++) {
            for (Refused refused : calls) {
                int got = refused.call().applyAsInt(states.get(state));
                check.due(phase + " state " + state + ": " + refused.name(), got, refused.code());
            }
        }
    }

    private static void refusedCallsChangeNothing() {
        leaveNoTrace("FEEDING", States.feeding(), States.feeding(), refusedWhileFeeding());
        leaveNoTrace("WORKING", working(), working(), refusedWhileWorking());
        for (int cap = 4; cap <= 16; cap++) {
            TwoLevelMinimizer x = full(cap);
            x.addOn(15, 1);
            x.addDc(15, 1);
            sameAsTwin("full, cap = " + cap, x, full(cap));
        }
    }

    private static TwoLevelMinimizer full(int cap) {
        TwoLevelMinimizer x = new TwoLevelMinimizer(2, 1, cap);
        for (int k = 0; k < cap; k++) {
            x.addOn(k % 2 == 0 ? 5 : 9, 1);
            x.addDc(6, 1);
        }
        return x;
    }

    // Each call is made twice on one of the twins and never on the other.
    private static void leaveNoTrace(String phase, List<TwoLevelMinimizer> states, List<TwoLevelMinimizer> twins,
            List<Refused> calls) {
        for (int state = 0; state < states.size(); state++) {
            TwoLevelMinimizer x = states.get(state);
            String before = Seen.all(x);
            for (Refused refused : calls) {
                refused.call().applyAsInt(x);
                refused.call().applyAsInt(x);
                check.due(phase + " state " + state + " after " + refused.name(), Seen.all(x), before);
            }
            sameAsTwin(phase + " state " + state, x, twins.get(state));
        }
    }

    // What the stores hold is seen through the calls that follow.
    private static void sameAsTwin(String when, TwoLevelMinimizer x, TwoLevelMinimizer twin) {
        check.due(when + ": what is seen", Seen.all(x), Seen.all(twin));
        check.due(when + ": addOn", x.addOn(2, 1), twin.addOn(2, 1));
        check.due(when + ": addOn", x.addOn(10, 1), twin.addOn(10, 1));
        check.due(when + ": addDc", x.addDc(1, 1), twin.addDc(1, 1));
        check.due(when + ": improve()", x.improve(), twin.improve());
        check.due(when + ": what is seen after it", Seen.all(x), Seen.all(twin));
        check.due(when + ": begin()", x.begin(), twin.begin());
        check.due(when + ": what is seen after begin()", Seen.all(x), Seen.all(twin));
        check.due(when + ": expand()", x.expand(), twin.expand());
        check.due(when + ": what is seen after expand()", Seen.all(x), Seen.all(twin));
    }
}
