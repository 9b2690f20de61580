import java.util.List;
import java.util.function.Consumer;
import java.util.function.Function;

/** Promises 10 to 16: each sentence of theirs that names a boundary case has a test of its own. */
public final class ReadingEdgesTest {
    private static final Check check = new Check("ReadingEdgesTest");
    private static final int LEAST = Integer.MIN_VALUE;
    private static final int GREATEST = Integer.MAX_VALUE;

    // Each looks with few calls: looking at the twin must not make the call that is tested, or both would change.
    private static final List<Function<TwoLevelMinimizer, String>> WAYS = List.of(
            x -> "" + x.phase(),
            x -> "" + x.cubeCount(),
            x -> "" + x.literalCount(),
            x -> Seen.cover(x),
            x -> Seen.function(x),
            x -> Seen.evaluation(x),
            x -> x.addOn(2, 1) + " " + x.addOn(10, 1),
            x -> x.addDc(2, 1) + " " + x.addDc(10, 1),
            x -> x.begin() + " " + Seen.cover(x),
            x -> x.expand() + " " + Seen.cover(x),
            x -> x.improve() + " " + Seen.cover(x));

    /** evaluate or function: both refuse the same points. */
    private interface Reading {
        int at(TwoLevelMinimizer x, int m, int o);
    }

    public static void main(String[] args) {
        thePhase();
        theCover();
        thePoints("14: evaluate", TwoLevelMinimizer::evaluate);
        evaluating();
        thePoints("15: function", TwoLevelMinimizer::function);
        theFunction();
        implicants();
        nothingChanges();
        check.end();
    }

    // Promise 10

    private static void thePhase() {
        check.sentence("10: FEEDING after construction and after clear()", ReadingEdgesTest::feedingStates);
        check.sentence("10: WORKING after begin()", ReadingEdgesTest::workingStates);
    }

    private static void feedingStates() {
        int state = 0;
        for (TwoLevelMinimizer x : States.feeding()) {
            check.due("FEEDING state " + state + ": phase()", x.phase(), 0);
            x.expand();
            x.improve();
            x.addOn(-1, -1);
            check.due("FEEDING state " + state + " after refused calls: phase()", x.phase(), 0);
            state++;
        }
    }

    private static void workingStates() {
        List<TwoLevelMinimizer> states = States.feeding();
        for (TwoLevelMinimizer x : states) {
            x.begin();
        }
        states.addAll(States.emptyCovers());
        int state = 0;
        for (TwoLevelMinimizer x : states) {
            check.due("WORKING state " + state + ": phase()", x.phase(), 1);
            x.reduce();
            x.expand();
            x.irredundant();
            x.improve();
            x.addOn(1, 1);
            x.addDc(-1, -1);
            x.begin();
            check.due("WORKING state " + state + " after other calls: phase()", x.phase(), 1);
            x.clear();
            check.due("WORKING state " + state + " after clear(): phase()", x.phase(), 0);
            state++;
        }
    }

    // Promises 11 to 13

    private static void theCover() {
        check.sentence("11: 0..cap", ReadingEdgesTest::countsUpToCap);
        check.sentence("11: it is 0 throughout FEEDING", ReadingEdgesTest::countWhileFeeding);
        check.sentence("12: ERR_RANGE if k < 0", ReadingEdgesTest::positionsTooSmall);
        check.sentence("12: ERR_RANGE if k >= count", ReadingEdgesTest::positionsTooLarge);
        check.sentence("12: the positions 0..count-1", ReadingEdgesTest::positionsThatAre);
        check.sentence("12: fields of inputs >= n are always 00", ReadingEdgesTest::fieldsPastTheInputs);
        check.sentence("12: an answer that is not ERR_RANGE is valid", ReadingEdgesTest::answersAreValid);
        check.sentence("13: the number of fields 01 or 10", ReadingEdgesTest::literalFields);
        check.sentence("13: the sum over the cubes, at the most", ReadingEdgesTest::mostLiterals);
        check.sentence("13: it is 0 for an empty cover", ReadingEdgesTest::noLiterals);
    }

    // The given number of cubes, each of another part and mask than its neighbours; no cube is redundant.
    private static TwoLevelMinimizer counted(int count, int cap) {
        TwoLevelMinimizer x = new TwoLevelMinimizer(4, 4, cap);
        for (int k = 0; k < count; k++) {
            x.addOn(partOf(k), 1 + k % 15);
        }
        x.begin();
        return x;
    }

    private static int partOf(int k) {
        int part = 0;
        for (int i = 0; i < 4; i++) {
            part |= 1 << (2 * i + ((k >> i) & 1));
        }
        return part;
    }

    private static void countsUpToCap() {
        for (int cap = 4; cap <= 16; cap++) {
            for (int count = 0; count <= cap; count++) {
                TwoLevelMinimizer x = counted(count, cap);
                check.due("cap = " + cap + ": cubeCount()", x.cubeCount(), count);
                check.due("cap = " + cap + ": reduce()", x.reduce(), count);
                check.due("cap = " + cap + ": cubeCount() after it", x.cubeCount(), count);
            }
            TwoLevelMinimizer x = counted(cap + 3, cap);
            check.due("cap = " + cap + ", more refused: cubeCount()", x.cubeCount(), cap);
            x.clear();
            check.due("cap = " + cap + ", cleared: cubeCount()", x.cubeCount(), 0);
        }
    }

    private static void countWhileFeeding() {
        for (int cap = 4; cap <= 16; cap++) {
            TwoLevelMinimizer x = new TwoLevelMinimizer(4, 1, cap);
            for (int round = 0; round < 3; round++) {
                check.due("FEEDING on nothing: cubeCount()", x.cubeCount(), 0);
                for (int k = 0; k <= cap; k++) {
                    x.addOn(85, 1);
                    check.due("FEEDING, after addOn: cubeCount()", x.cubeCount(), 0);
                    x.addDc(170, 1);
                    check.due("FEEDING, after addDc: cubeCount()", x.cubeCount(), 0);
                }
                x.expand();
                x.irredundant();
                x.reduce();
                x.improve();
                check.due("FEEDING, after refused passes: cubeCount()", x.cubeCount(), 0);
                x.begin();
                check.due("WORKING: cubeCount()", x.cubeCount(), cap);
                x.clear();
            }
        }
    }

    private static void noCubeAt(TwoLevelMinimizer x, int k) {
        check.due(x.cubeCount() + " cubes: cubeInputs(" + k + ")", x.cubeInputs(k), -5);
        check.due(x.cubeCount() + " cubes: cubeOutputs(" + k + ")", x.cubeOutputs(k), -5);
    }

    private static void positionsTooSmall() {
        for (int count = 0; count <= 16; count++) {
            TwoLevelMinimizer x = counted(count, 16);
            for (int k = -70000; k < 0; k += k < -300 ? 97 : 1) {
                noCubeAt(x, k);
            }
            // Cut down to fewer bits, some of these would be positions that are.
            for (int bit = 4; bit < 32; bit++) {
                for (int k = 0; k < 16; k++) {
                    noCubeAt(x, (-1 << bit) | k);
                    noCubeAt(x, LEAST | (1 << bit) | k);
                }
            }
        }
        for (TwoLevelMinimizer x : States.feeding()) {
            noCubeAt(x, -1);
            noCubeAt(x, LEAST);
        }
    }

    private static void positionsTooLarge() {
        for (int count = 0; count <= 16; count++) {
            TwoLevelMinimizer x = counted(count, 16);
            for (int k = count; k < 70000; k += k > 300 ? 97 : 1) {
                noCubeAt(x, k);
            }
            for (int bit = 4; bit < 31; bit++) {
                for (int k = 0; k < 16; k++) {
                    noCubeAt(x, (1 << bit) | k);
                    noCubeAt(x, GREATEST - k);
                }
            }
        }
        for (TwoLevelMinimizer x : States.feeding()) {
            noCubeAt(x, 0);
            noCubeAt(x, 1);
            noCubeAt(x, GREATEST);
        }
        // The positions that a pass has freed hold no cube any more.
        TwoLevelMinimizer x = Cubes.begun(1, "00/1 01/1 10/1 11/1", "");
        x.expand();
        for (int k = 1; k < 17; k++) {
            noCubeAt(x, k);
        }
    }

    private static void positionsThatAre() {
        for (int cap = 4; cap <= 16; cap++) {
            for (int count = 1; count <= cap; count++) {
                TwoLevelMinimizer x = counted(count, cap);
                for (int k = 0; k < count; k++) {
                    check.due(count + " cubes: cubeInputs(" + k + ")", x.cubeInputs(k), partOf(k));
                    check.due(count + " cubes: cubeOutputs(" + k + ")", x.cubeOutputs(k), 1 + k % 15);
                }
            }
        }
    }

    // A cover of many cubes after each of the passes, for every number of inputs and outputs.
    private static void throughThePasses(Consumer<TwoLevelMinimizer> look, int n, int q) {
        Sequence numbers = new Sequence(12L + n * 8 + q);
        for (int run = 0; run < 10; run++) {
            TwoLevelMinimizer x = new TwoLevelMinimizer(n, q, 16);
            for (int k = 0; k < 10; k++) {
                x.addOn(numbers.part(n, run), numbers.mask(q));
            }
            x.addDc(numbers.part(n, run), numbers.mask(q));
            x.begin();
            look.accept(x);
            x.reduce();
            look.accept(x);
            x.expand();
            look.accept(x);
            x.irredundant();
            look.accept(x);
            x.begin();
            x.improve();
            look.accept(x);
        }
    }

    private static void fieldsPastTheInputs() {
        for (int n = 1; n <= 8; n++) {
            int bits = 2 * n;
            for (int q = 1; q <= 4; q++) {
                throughThePasses(x -> {
                    for (int k = 0; k < x.cubeCount(); k++) {
                        check.due("what is above bit " + (bits - 1), x.cubeInputs(k) >>> bits, 0);
                    }
                }, n, q);
            }
        }
    }

    private static void answersAreValid() {
        for (int inputs = 1; inputs <= 8; inputs++) {
            for (int outputs = 1; outputs <= 4; outputs++) {
                int n = inputs;
                int q = outputs;
                throughThePasses(x -> validCubes(x, n, q), n, q);
            }
        }
    }

    private static void validCubes(TwoLevelMinimizer x, int n, int q) {
        for (int k = 0; k < x.cubeCount(); k++) {
            int part = x.cubeInputs(k);
            int mask = x.cubeOutputs(k);
            check.due("input part " + part + " is one", part > 0 && part < 1 << (2 * n), true);
            for (int i = 0; i < n; i++) {
                check.due("field " + i + " of " + part + " is void", ((part >> (2 * i)) & 3) == 0, false);
            }
            check.due("output mask " + mask + " is one", mask >= 1 && mask <= (1 << q) - 1, true);
        }
    }

    private static void literalFields() {
        for (int n = 1; n <= 8; n++) {
            for (int i = 0; i < n; i++) {
                for (int field = 1; field <= 3; field++) {
                    TwoLevelMinimizer x = new TwoLevelMinimizer(n, 1, 4);
                    int cleared = Cubes.every(n, 3) & ~(3 << (2 * i));
                    x.addOn(cleared | (field << (2 * i)), 1);
                    x.begin();
                    check.due("n = " + n + ", field " + i + " is " + field, x.literalCount(), field == 3 ? 0 : 1);
                }
            }
            for (int field = 1; field <= 3; field++) {
                TwoLevelMinimizer x = new TwoLevelMinimizer(n, 1, 4);
                x.addOn(Cubes.every(n, field), 1);
                x.begin();
                check.due("n = " + n + ", every field is " + field, x.literalCount(), field == 3 ? 0 : n);
            }
        }
    }

    private static void mostLiterals() {
        for (int n = 1; n <= 8; n++) {
            for (int cap = 4; cap <= 16; cap++) {
                TwoLevelMinimizer x = new TwoLevelMinimizer(n, 4, cap);
                for (int k = 0; k < cap; k++) {
                    x.addOn(Cubes.every(n, 1 + k % 2), 15);
                }
                x.addDc(Cubes.every(n, 1), 1);
                x.begin();
                check.due("n = " + n + ", " + cap + " minterms", x.literalCount(), n * cap);
            }
        }
    }

    private static void noLiterals() {
        for (TwoLevelMinimizer x : States.emptyCovers()) {
            check.due("an empty cover: literalCount()", x.literalCount(), 0);
        }
        for (TwoLevelMinimizer x : States.feeding()) {
            check.due("FEEDING: literalCount()", x.literalCount(), 0);
        }
        TwoLevelMinimizer x = counted(16, 16);
        x.clear();
        check.due("cleared: literalCount()", x.literalCount(), 0);
    }

    // Promises 14 and 15

    private static void thePoints(String name, Reading reading) {
        int[] tooSmall = {-1, -2, -4, -16, -255, -256, -257, -65536, -(1 << 30), LEAST + 255, LEAST + 1, LEAST};
        check.sentence(name + " answers ERR_RANGE if m < 0", () -> inEveryState((x, n, q) -> {
            for (int m : tooSmall) {
                outside(reading, x, m, q - 1);
            }
        }));
        check.sentence(name + " answers ERR_RANGE if m >= 2^n", () -> inEveryState((x, n, q) -> {
            for (int bit = n; bit <= 30; bit++) {
                outside(reading, x, 1 << bit, 0);
                outside(reading, x, (1 << bit) + 1, 0);
                outside(reading, x, (1 << bit) + (1 << n) - 1, q - 1);
            }
            outside(reading, x, GREATEST, 0);
        }));
        check.sentence(name + " answers ERR_RANGE if o < 0", () -> inEveryState((x, n, q) -> {
            for (int o : tooSmall) {
                outside(reading, x, (1 << n) - 1, o);
            }
            for (int o = -70; o < 0; o++) {
                outside(reading, x, 0, o);
            }
        }));
        check.sentence(name + " answers ERR_RANGE if o >= q", () -> inEveryState((x, n, q) -> {
            for (int o = q; o < 70; o++) {
                outside(reading, x, 0, o);
            }
            for (int bit = 6; bit <= 30; bit++) {
                outside(reading, x, (1 << n) - 1, 1 << bit);
            }
            outside(reading, x, 0, GREATEST);
        }));
        check.sentence(name + " answers ERR_RANGE if m and o are wrong", () -> inEveryState((x, n, q) -> {
            int[] minterms = {LEAST, -1, 1 << n, GREATEST};
            int[] outputs = {LEAST, -1, q, GREATEST};
            for (int m : minterms) {
                for (int o : outputs) {
                    outside(reading, x, m, o);
                }
            }
        }));
        check.sentence(name + " otherwise answers, at the corners too", () -> inEveryState((x, n, q) -> {
            int due = x.phase() == 1 || name.startsWith("15") ? 1 : 0;
            check.due("(0, 0)", reading.at(x, 0, 0), due);
            check.due("(0, q-1)", reading.at(x, 0, q - 1), due);
            check.due("(2^n-1, 0)", reading.at(x, (1 << n) - 1, 0), due);
            check.due("(2^n-1, q-1)", reading.at(x, (1 << n) - 1, q - 1), due);
        }));
    }

    private interface Looking {
        void look(TwoLevelMinimizer x, int n, int q);
    }

    // All points are ON: FEEDING, WORKING on the first cover, and WORKING after a pass.
    private static void inEveryState(Looking looking) {
        for (int n = 1; n <= 8; n++) {
            for (int q = 1; q <= 4; q++) {
                TwoLevelMinimizer x = new TwoLevelMinimizer(n, q, 4);
                x.addOn(Cubes.every(n, 3), (1 << q) - 1);
                looking.look(x, n, q);
                x.begin();
                looking.look(x, n, q);
                x.reduce();
                looking.look(x, n, q);
            }
        }
    }

    private static void outside(Reading reading, TwoLevelMinimizer x, int m, int o) {
        check.due("phase " + x.phase() + ": (" + m + ", " + o + ")", reading.at(x, m, o), -5);
    }

    private static void evaluating() {
        check.sentence("14: in FEEDING the answer for an in-range point is 0", ReadingEdgesTest::feedingIsZero);
        check.sentence("14: out-of-range arguments still answer ERR_RANGE", ReadingEdgesTest::feedingIsRefused);
        check.sentence("14: of an empty cover the answer is 0", ReadingEdgesTest::emptyIsZero);
        check.sentence("14: 1 if some cover cube contains (m,o)", ReadingEdgesTest::oneCubeIsEnough);
    }

    private static void allZero(String when, TwoLevelMinimizer x) {
        check.due(when, Seen.evaluation(x).replace("0", "").replace(" ", ""), "");
        check.due(when + ": it has a point", x.evaluate(0, 0), 0);
    }

    private static void feedingIsZero() {
        for (TwoLevelMinimizer x : States.feeding()) {
            allZero("FEEDING", x);
        }
        TwoLevelMinimizer x = Cubes.begun(4, "--------/15", "--------/3");
        x.clear();
        Cubes.feed(x, "--------/15", "--------/3");
        allZero("FEEDING again", x);
    }

    private static void feedingIsRefused() {
        for (TwoLevelMinimizer x : States.feeding()) {
            int[] wrong = {LEAST, -1, 256, GREATEST};
            for (int value : wrong) {
                check.due("FEEDING: evaluate(" + value + ", 0)", x.evaluate(value, 0), -5);
                check.due("FEEDING: evaluate(0, " + value + ")", x.evaluate(0, value), -5);
            }
        }
    }

    private static void emptyIsZero() {
        for (TwoLevelMinimizer x : States.emptyCovers()) {
            allZero("an empty cover", x);
        }
    }

    private static void oneCubeIsEnough() {
        // Minterm k is in cube k alone, at the outputs of its mask alone.
        TwoLevelMinimizer x = counted(16, 16);
        for (int m = 0; m < 16; m++) {
            for (int o = 0; o < 4; o++) {
                check.due("evaluate(" + m + ", " + o + ")", x.evaluate(m, o), ((1 + m % 15) >> o) & 1);
            }
        }
    }

    private static void theFunction() {
        check.sentence("15: DC wins over ON", ReadingEdgesTest::dontCareWins);
        check.sentence("15: DC wins over ON, at one point alone", ReadingEdgesTest::dontCareAtOnePoint);
        check.sentence("15: over the cubes added so far, the last of each store too", ReadingEdgesTest::lastCubes);
        check.sentence("15: it works in any phase", ReadingEdgesTest::functionInAnyPhase);
    }

    private static void dontCareWins() {
        TwoLevelMinimizer x = new TwoLevelMinimizer(1, 1, 4);
        x.addOn(3, 1);
        x.addDc(3, 1);
        check.due("the don't-care comes later", Seen.function(x), "22");
        x.addOn(3, 1);
        check.due("an on-cube comes after it", Seen.function(x), "22");
        x.clear();
        x.addDc(1, 1);
        x.addOn(3, 1);
        check.due("the don't-care comes first", Seen.function(x), "21");
        x.begin();
        check.due("WORKING", Seen.function(x), "21");
        // The cover holds the don't-care point, and F has it as DC nonetheless.
        check.due("evaluate(0, 0)", x.evaluate(0, 0), 1);
    }

    private static void dontCareAtOnePoint() {
        for (int n = 1; n <= 8; n += 7) {
            for (int q = 1; q <= 4; q++) {
                for (int o = 0; o < q; o++) {
                    TwoLevelMinimizer x = new TwoLevelMinimizer(n, q, 4);
                    int last = (1 << n) - 1;
                    x.addOn(Cubes.every(n, 3), (1 << q) - 1);
                    x.addDc(Cubes.every(n, 2), 1 << o);
                    for (int p = 0; p < q; p++) {
                        check.due("the last minterm at output " + p, x.function(last, p), p == o ? 2 : 1);
                        check.due("the one before at output " + p, x.function(last - 1, p), 1);
                        check.due("minterm 0 at output " + p, x.function(0, p), 1);
                    }
                }
            }
        }
    }

    private static void lastCubes() {
        for (int cap = 4; cap <= 16; cap++) {
            TwoLevelMinimizer x = new TwoLevelMinimizer(5, 1, cap);
            for (int k = 0; k < cap; k++) {
                // x4 tells the stores apart: 0 for the on-cubes, 1 for the dc-cubes.
                x.addOn(partOf(k) | (1 << 8), 1);
                x.addDc(partOf(k) | (2 << 8), 1);
                for (int m = 0; m < 16; m++) {
                    check.due("after " + (k + 1) + " of each: " + m, x.function(m, 0), m <= k ? 1 : 0);
                    check.due("after " + (k + 1) + " of each: " + (m + 16), x.function(m + 16, 0), m <= k ? 2 : 0);
                }
            }
        }
    }

    private static void functionInAnyPhase() {
        TwoLevelMinimizer x = Cubes.fed(2, "0-/2 1-/1", "00/2 11/1");
        String function = "0102 2010";
        check.due("FEEDING", Seen.function(x), function);
        x.begin();
        check.due("WORKING", Seen.function(x), function);
        x.reduce();
        check.due("the cover has left the don't-cares", Seen.evaluation(x), "0100 0010");
        check.due("WORKING on that cover", Seen.function(x), function);
        x.clear();
        check.due("FEEDING again", Seen.function(x), "0000 0000");
        x = Cubes.fed(2, "", "1-/1 00/2");
        check.due("FEEDING, don't-cares alone", Seen.function(x), "0202 2000");
        x.begin();
        check.due("WORKING on an empty cover", Seen.function(x), "0202 2000");
        x = Cubes.begun(1, "1-/1", "1-/1");
        x.irredundant();
        check.due("WORKING on an emptied cover", Seen.function(x), "0202");
    }

    // Promise 16

    private static void implicants() {
        check.sentence("16: false if inputPart is negative", ReadingEdgesTest::negativeParts);
        check.sentence("16: false if inputPart has a bit at 2n or above", ReadingEdgesTest::partsTooLong);
        check.sentence("16: false if inputPart has a field 00", ReadingEdgesTest::voidFields);
        check.sentence("16: false if outputMask is not valid", ReadingEdgesTest::wrongMasks);
        check.sentence("16: false if both are not valid", ReadingEdgesTest::bothWrong);
        check.sentence("16: true iff it contains no OFF point", ReadingEdgesTest::oneOffPoint);
        check.sentence("16: a DC point is not OFF", ReadingEdgesTest::dontCaresAlone);
        check.sentence("16: over no cubes nothing is an implicant", ReadingEdgesTest::ofNoCubes);
        check.sentence("16: it works in any phase", ReadingEdgesTest::implicantInAnyPhase);
    }

    // Where every point is ON, a cube that is valid is an implicant: the validity alone decides.
    private static void validityDecides(int n, int part, int mask, boolean due) {
        TwoLevelMinimizer x = new TwoLevelMinimizer(n, 2, 4);
        x.addOn(Cubes.every(n, 3), 3);
        check.due("FEEDING, n = " + n + ": isImplicant(" + part + ", " + mask + ")", x.isImplicant(part, mask), due);
        x.begin();
        check.due("WORKING, n = " + n + ": isImplicant(" + part + ", " + mask + ")", x.isImplicant(part, mask), due);
    }

    private static void negativeParts() {
        for (int n = 1; n <= 8; n++) {
            for (int field = 1; field <= 3; field++) {
                int part = Cubes.every(n, field);
                validityDecides(n, part, 3, true);
                validityDecides(n, part | LEAST, 3, false);
                validityDecides(n, ~part, 3, false);
                validityDecides(n, -part, 3, false);
            }
            validityDecides(n, -1, 3, false);
            validityDecides(n, LEAST, 3, false);
        }
    }

    private static void partsTooLong() {
        for (int n = 1; n <= 8; n++) {
            for (int bit = 2 * n; bit <= 30; bit++) {
                validityDecides(n, Cubes.every(n, 3) | (1 << bit), 1, false);
                validityDecides(n, Cubes.every(n, 1) | (1 << bit), 1, false);
            }
            validityDecides(n, GREATEST, 1, false);
        }
    }

    private static void voidFields() {
        for (int n = 1; n <= 8; n++) {
            for (int i = 0; i < n; i++) {
                validityDecides(n, Cubes.every(n, 3) & ~(3 << (2 * i)), 1, false);
                validityDecides(n, Cubes.every(n, 2) & ~(3 << (2 * i)), 3, false);
            }
            validityDecides(n, 0, 1, false);
        }
    }

    private static void wrongMasks() {
        for (int q = 1; q <= 4; q++) {
            TwoLevelMinimizer x = new TwoLevelMinimizer(2, q, 4);
            x.addOn(15, (1 << q) - 1);
            for (int round = 0; round < 2; round++) {
                int[] wrong = {0, -1, LEAST, LEAST + 1, 1 << q, (1 << q) + 1, (2 << q) - 1, 1 << 30, GREATEST};
                for (int mask : wrong) {
                    check.due("q = " + q + ": isImplicant(15, " + mask + ")", x.isImplicant(15, mask), false);
                    check.due("q = " + q + ": isImplicant(5, " + mask + ")", x.isImplicant(5, mask), false);
                }
                for (int mask = 1; mask < 1 << q; mask++) {
                    check.due("q = " + q + ": isImplicant(15, " + mask + ")", x.isImplicant(15, mask), true);
                }
                x.begin();
            }
        }
    }

    private static void bothWrong() {
        int[] parts = {LEAST, -1, 0, 4, 16, GREATEST};
        int[] masks = {LEAST, -1, 0, 4, GREATEST};
        for (int part : parts) {
            for (int mask : masks) {
                validityDecides(2, part, mask, false);
            }
        }
    }

    // All points are ON but (m,o): for each input the points that differ from m there, and the other outputs.
    private static TwoLevelMinimizer allBut(int n, int q, int m, int o, boolean dontCare) {
        TwoLevelMinimizer x = new TwoLevelMinimizer(n, q, 16);
        int mask = (1 << q) - 1;
        int minterm = 0;
        for (int i = 0; i < n; i++) {
            int value = (m >> i) & 1;
            minterm |= 1 << (2 * i + value);
            int field = value == 0 ? 2 : 1;
            x.addOn((Cubes.every(n, 3) & ~(3 << (2 * i))) | (field << (2 * i)), mask);
        }
        x.addOn(Cubes.every(n, 3), mask & ~(1 << o));
        if (dontCare) {
            x.addDc(minterm, 1 << o);
        }
        return x;
    }

    private static void oneOffPoint() {
        for (int n = 1; n <= 8; n++) {
            for (int q = 1; q <= 4; q++) {
                int step = n < 5 ? 1 : 15;
                for (int m = 0; m < 1 << n; m += step) {
                    int o = (m / step) % q;
                    TwoLevelMinimizer x = allBut(n, q, m, o, false);
                    String when = "(" + m + ", " + o + ") is OFF: ";
                    int others = ((1 << q) - 1) & ~(1 << o);
                    int minterm = 0;
                    for (int i = 0; i < n; i++) {
                        minterm |= 1 << (2 * i + ((m >> i) & 1));
                    }
                    check.due(when + "all points", x.isImplicant(Cubes.every(n, 3), (1 << q) - 1), false);
                    check.due(when + "all at its output", x.isImplicant(Cubes.every(n, 3), 1 << o), false);
                    check.due(when + "that point", x.isImplicant(minterm, 1 << o), false);
                    check.due(when + "the others", x.isImplicant(Cubes.every(n, 3), others), q > 1);
                    check.due(when + "another minterm", x.isImplicant(minterm ^ 3, (1 << q) - 1), true);
                }
            }
        }
    }

    private static void dontCaresAlone() {
        for (int n = 1; n <= 8; n++) {
            for (int q = 1; q <= 4; q++) {
                TwoLevelMinimizer x = allBut(n, q, (1 << n) - 1, q - 1, true);
                check.due("one don't-care", x.isImplicant(Cubes.every(n, 3), (1 << q) - 1), true);
                check.due("that point", x.isImplicant(Cubes.every(n, 2), 1 << (q - 1)), true);
                x.clear();
                x.addDc(Cubes.every(n, 3), (1 << q) - 1);
                check.due("don't-cares alone", x.isImplicant(Cubes.every(n, 3), (1 << q) - 1), true);
            }
        }
    }

    private static void ofNoCubes() {
        for (int n = 1; n <= 8; n++) {
            for (int q = 1; q <= 4; q++) {
                TwoLevelMinimizer x = new TwoLevelMinimizer(n, q, 4);
                for (int round = 0; round < 3; round++) {
                    for (int field = 1; field <= 3; field++) {
                        check.due("no cubes", x.isImplicant(Cubes.every(n, field), 1), false);
                        check.due("no cubes", x.isImplicant(Cubes.every(n, field), (1 << q) - 1), false);
                    }
                    if (round == 0) {
                        x.begin();
                    } else {
                        x.clear();
                        x.addOn(Cubes.every(n, 3), (1 << q) - 1);
                        x.clear();
                    }
                }
            }
        }
    }

    private static void implicantInAnyPhase() {
        TwoLevelMinimizer x = Cubes.fed(2, "--/1 0-/2", "11/2");
        for (int round = 0; round < 4; round++) {
            check.due("round " + round + ": --/1", x.isImplicant(Cubes.part("--"), 1), true);
            check.due("round " + round + ": --/2", x.isImplicant(Cubes.part("--"), 2), false);
            check.due("round " + round + ": -1/3", x.isImplicant(Cubes.part("-1"), 3), true);
            check.due("round " + round + ": -0/3", x.isImplicant(Cubes.part("-0"), 3), false);
            if (round == 0) {
                x.begin();
            } else if (round == 1) {
                x.reduce();
            } else {
                x.improve();
            }
        }
        x.clear();
        check.due("cleared: --/1", x.isImplicant(Cubes.part("--"), 1), false);
    }

    // Promises 10 to 16: none of the reading calls changes anything

    private static void nothingChanges() {
        unchanged("10: phase", x -> x.phase());
        unchanged("11: cubeCount", x -> x.cubeCount());
        unchanged("12: cubeInputs", x -> {
            for (int k = -20; k < 40; k++) {
                x.cubeInputs(k);
            }
            x.cubeInputs(LEAST);
            x.cubeInputs(GREATEST);
        });
        unchanged("12: cubeOutputs", x -> {
            for (int k = -20; k < 40; k++) {
                x.cubeOutputs(k);
            }
            x.cubeOutputs(LEAST);
            x.cubeOutputs(GREATEST);
        });
        unchanged("13: literalCount", x -> x.literalCount());
        unchanged("14: evaluate", x -> {
            for (int m = -2; m < 70; m++) {
                for (int o = -2; o < 6; o++) {
                    x.evaluate(m, o);
                }
            }
            x.evaluate(LEAST, GREATEST);
        });
        unchanged("15: function", x -> {
            for (int m = -2; m < 70; m++) {
                for (int o = -2; o < 6; o++) {
                    x.function(m, o);
                }
            }
            x.function(GREATEST, LEAST);
        });
        unchanged("16: isImplicant", x -> {
            for (int part = -2; part < 70; part++) {
                for (int mask = -2; mask < 6; mask++) {
                    x.isImplicant(part, mask);
                }
            }
            x.isImplicant(LEAST, GREATEST);
        });
    }

    private static void unchanged(String name, Consumer<TwoLevelMinimizer> call) {
        check.sentence(name + " changes nothing", () -> {
            int states = allStates().size();
            for (int state = 0; state < states; state++) {
                for (int way = 0; way < WAYS.size(); way++) {
                    TwoLevelMinimizer x = allStates().get(state);
                    TwoLevelMinimizer twin = allStates().get(state);
                    call.accept(x);
                    call.accept(x);
                    String what = "state " + state + ", seen in way " + way + ",";
                    check.due(what, WAYS.get(way).apply(x), WAYS.get(way).apply(twin));
                }
            }
        });
    }

    private static List<TwoLevelMinimizer> allStates() {
        List<TwoLevelMinimizer> states = States.feeding();
        for (TwoLevelMinimizer x : States.feeding()) {
            x.begin();
            states.add(x);
        }
        states.addAll(States.emptyCovers());
        return states;
    }
}
