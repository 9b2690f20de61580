import java.util.List;
import java.util.function.ToIntFunction;

/** Promises 5 to 8: each sentence of theirs that names a boundary case has a test of its own. */
public final class PassesEdgesTest {
    private static final Check check = new Check("PassesEdgesTest");
    private static final ToIntFunction<TwoLevelMinimizer> EXPAND = TwoLevelMinimizer::expand;
    private static final ToIntFunction<TwoLevelMinimizer> IRREDUNDANT = TwoLevelMinimizer::irredundant;
    private static final ToIntFunction<TwoLevelMinimizer> REDUCE = TwoLevelMinimizer::reduce;
    private static final ToIntFunction<TwoLevelMinimizer> IMPROVE = TwoLevelMinimizer::improve;

    public static void main(String[] args) {
        everyPass("5: expand", EXPAND);
        expanding();
        everyPass("6: irredundant", IRREDUNDANT);
        removing();
        everyPass("7: reduce", REDUCE);
        reducing();
        everyPass("8: improve", IMPROVE);
        improving();
        check.end();
    }

    // What the document says of each pass in the same words

    private static void everyPass(String name, ToIntFunction<TwoLevelMinimizer> pass) {
        check.sentence(name + " in phase FEEDING answers ERR_PHASE", () -> refused(pass));
        check.sentence(name + " in phase FEEDING changes nothing", () -> refusedWithoutTrace(pass));
        check.sentence(name + " of an empty cover answers 0, and it stays empty", () -> emptyCover(pass));
        check.sentence(name + " does not change the on-cubes, dc-cubes and phase", () -> storesStay(pass));
    }

    private static void refused(ToIntFunction<TwoLevelMinimizer> pass) {
        int state = 0;
        for (TwoLevelMinimizer x : States.feeding()) {
            check.due("FEEDING state " + state, pass.applyAsInt(x), -1);
            check.due("FEEDING state " + state + " again", pass.applyAsInt(x), -1);
            state++;
        }
    }

    private static void refusedWithoutTrace(ToIntFunction<TwoLevelMinimizer> pass) {
        List<TwoLevelMinimizer> states = States.feeding();
        List<TwoLevelMinimizer> twins = States.feeding();
        for (int state = 0; state < states.size(); state++) {
            TwoLevelMinimizer x = states.get(state);
            TwoLevelMinimizer twin = twins.get(state);
            String when = "FEEDING state " + state + ": ";
            pass.applyAsInt(x);
            check.due(when + "what is seen", Seen.all(x), Seen.all(twin));
            check.due(when + "the next on-cube", x.addOn(10, 1), twin.addOn(10, 1));
            check.due(when + "the next dc-cube", x.addDc(9, 1), twin.addDc(9, 1));
            pass.applyAsInt(x);
            check.due(when + "begin()", x.begin(), twin.begin());
            check.due(when + "what is seen after begin()", Seen.all(x), Seen.all(twin));
        }
    }

    private static void emptyCover(ToIntFunction<TwoLevelMinimizer> pass) {
        int state = 0;
        for (TwoLevelMinimizer x : States.emptyCovers()) {
            String when = "empty cover " + state;
            String before = Seen.all(x);
            check.due(when + " has count", x.cubeCount(), 0);
            check.due(when, pass.applyAsInt(x), 0);
            check.due(when + " afterwards", Seen.all(x), before);
            check.due(when + " again", pass.applyAsInt(x), 0);
            state++;
        }
    }

    private static void storesStay(ToIntFunction<TwoLevelMinimizer> pass) {
        String on = "--1/6 -0-/6 0--/5 0-1/7 00-/7 ---/4";
        TwoLevelMinimizer x = Cubes.begun(3, on, "110/1 --0/2 -11/4");
        String begun = Seen.all(x);
        String function = Seen.function(x);
        for (int round = 0; round < 3; round++) {
            pass.applyAsInt(x);
            check.due("F", Seen.function(x), function);
            check.due("phase()", x.phase(), 1);
        }
        check.due("the number of on-cubes", x.begin(), 6);
        check.due("what is seen after begin()", Seen.all(x), begun);
        // With the on-cubes away the dc-cubes show, and the other way round.
        TwoLevelMinimizer y = Cubes.begun(1, "0-/1 -1/1", "10/1 11/1");
        pass.applyAsInt(y);
        check.due("F of on-cubes beside dc-cubes", Seen.function(y), "1212");
    }

    private static void covers(String name, TwoLevelMinimizer x, ToIntFunction<TwoLevelMinimizer> pass,
            int answer, int inputs, String cover) {
        check.due(name, pass.applyAsInt(x), answer);
        check.due("the cover, " + name, Cubes.cover(x, inputs), cover);
    }

    // Promise 5

    private static void expanding() {
        check.sentence("5: for i = 0..n-1", PassesEdgesTest::everyInputIsTried);
        check.sentence("5: for i = 0..n-1 in order", PassesEdgesTest::inputsInOrder);
        check.sentence("5: if field i of c is not 11", PassesEdgesTest::nothingToRaise);
        check.sentence("5: if d is an implicant, by one OFF point", PassesEdgesTest::oneOffPointHinders);
        check.sentence("5: if d is an implicant, a DC point is no hindrance", PassesEdgesTest::dontCareIsNoHindrance);
        check.sentence("5: for o = 0..q-1", PassesEdgesTest::everyOutputIsTried);
        check.sentence("5: then the outputs", PassesEdgesTest::inputsBeforeOutputs);
        check.sentence("5: equal cubes included", PassesEdgesTest::equalCubesGo);
        check.sentence("5: at a position other than c's", PassesEdgesTest::cubeItselfStays);
        check.sentence("5: a subset by the input part and by the mask", PassesEdgesTest::subsetByBoth);
        check.sentence("5: pos = the new position of c, plus one", PassesEdgesTest::noneIsSkipped);
        check.sentence("5: the answer is the final count", PassesEdgesTest::expandAtFullCapacity);
    }

    private static int withField(int part, int i, int field) {
        return (part & ~(3 << (2 * i))) | (field << (2 * i));
    }

    private static void everyInputIsTried() {
        for (int n = 1; n <= 8; n++) {
            int zeros = Cubes.every(n, 1);
            int ones = Cubes.every(n, 2);
            for (int i = 0; i < n; i++) {
                TwoLevelMinimizer x = new TwoLevelMinimizer(n, 1, 4);
                x.addOn(zeros, 1);
                x.addOn(withField(zeros, i, 2), 1);
                x.begin();
                check.due("n = " + n + ", two cubes apart in x" + i, x.expand(), 1);
                check.due("cubeInputs(0), raised from 01", x.cubeInputs(0), withField(zeros, i, 3));
                x = new TwoLevelMinimizer(n, 1, 4);
                x.addOn(ones, 1);
                x.addOn(withField(ones, i, 1), 1);
                x.begin();
                check.due("n = " + n + ", two cubes apart in x" + i, x.expand(), 1);
                check.due("cubeInputs(0), raised from 10", x.cubeInputs(0), withField(ones, i, 3));
            }
        }
    }

    private static void inputsInOrder() {
        for (int n = 2; n <= 8; n++) {
            int zeros = Cubes.every(n, 1);
            for (int i = 0; i < n; i++) {
                for (int j = i + 1; j < n; j++) {
                    // The first cube could be raised in x_i or in x_j, but not in both.
                    TwoLevelMinimizer x = new TwoLevelMinimizer(n, 1, 4);
                    x.addOn(zeros, 1);
                    x.addOn(withField(zeros, j, 2), 1);
                    x.addOn(withField(zeros, i, 2), 1);
                    x.begin();
                    check.due("n = " + n + ", x" + i + " before x" + j, x.expand(), 2);
                    check.due("cubeInputs(0)", x.cubeInputs(0), withField(zeros, i, 3));
                    check.due("cubeInputs(1)", x.cubeInputs(1), withField(zeros, j, 3));
                }
            }
        }
    }

    private static void nothingToRaise() {
        for (int n = 1; n <= 8; n++) {
            for (int q = 1; q <= 4; q++) {
                TwoLevelMinimizer x = new TwoLevelMinimizer(n, q, 4);
                x.addOn(Cubes.every(n, 3), (1 << q) - 1);
                x.begin();
                String before = Seen.all(x);
                check.due("n = " + n + ", the cube of all points", x.expand(), 1);
                check.due("what is seen afterwards", Seen.all(x), before);
            }
        }
    }

    // Every point of n inputs at output 0 but the one of the last minterm: a cube for each input at 0.
    private static TwoLevelMinimizer allButOne(int n) {
        TwoLevelMinimizer x = new TwoLevelMinimizer(n, 1, 16);
        for (int i = 0; i < n; i++) {
            x.addOn(withField(Cubes.every(n, 3), i, 1), 1);
        }
        return x;
    }

    private static void oneOffPointHinders() {
        for (int n = 1; n <= 8; n++) {
            TwoLevelMinimizer x = allButOne(n);
            x.begin();
            String before = Seen.all(x);
            check.due("n = " + n + ", all points but one", x.expand(), n);
            check.due("what is seen afterwards", Seen.all(x), before);
        }
        for (int q = 2; q <= 4; q++) {
            // Each output after the first is OFF at 11 alone: --/1 can't take it, the cubes without 11 take output 0.
            TwoLevelMinimizer x = new TwoLevelMinimizer(2, q, 16);
            int all = (1 << q) - 1;
            x.addOn(Cubes.part("--"), 1);
            x.addOn(Cubes.part("0-"), all - 1);
            x.addOn(Cubes.part("-0"), all - 1);
            x.begin();
            check.due("q = " + q + ", outputs with one OFF point", x.expand(), 3);
            check.due("the cover", Cubes.cover(x, 2), "--/1 0-/" + all + " -0/" + all);
        }
    }

    private static void dontCareIsNoHindrance() {
        for (int n = 1; n <= 8; n++) {
            TwoLevelMinimizer x = allButOne(n);
            x.addDc(Cubes.every(n, 2), 1);
            x.begin();
            check.due("n = " + n + ", all points but a don't-care", x.expand(), 1);
            check.due("cubeInputs(0)", x.cubeInputs(0), Cubes.every(n, 3));
        }
        TwoLevelMinimizer x = Cubes.begun(4, "00000000/4", "--------/15");
        covers("one ON point among don't-cares", x, EXPAND, 1, 8, "--------/15");
    }

    private static void everyOutputIsTried() {
        for (int q = 1; q <= 4; q++) {
            for (int from = 0; from < q; from++) {
                for (int to = 0; to < q; to++) {
                    TwoLevelMinimizer x = new TwoLevelMinimizer(1, q, 4);
                    x.addOn(1, 1 << from);
                    x.addOn(1, 1 << to);
                    x.begin();
                    check.due("q = " + q + ", outputs " + from + " and " + to, x.expand(), 1);
                    check.due("cubeOutputs(0)", x.cubeOutputs(0), (1 << from) | (1 << to));
                }
            }
            TwoLevelMinimizer x = new TwoLevelMinimizer(1, q, 4);
            for (int o = q - 1; o >= 0; o--) {
                x.addOn(2, 1 << o);
            }
            x.begin();
            check.due("q = " + q + ", a cube for each output", x.expand(), 1);
            check.due("cubeOutputs(0)", x.cubeOutputs(0), (1 << q) - 1);
        }
    }

    private static void inputsBeforeOutputs() {
        // 0/1 could become -/1 or 0/8; with the input raised, output 3 is OFF at x0.
        TwoLevelMinimizer x = Cubes.begun(4, "0/1 1/1 0/8", "");
        covers("the input and the last output", x, EXPAND, 2, 1, "-/1 0/9");
        x = Cubes.begun(2, "00000000/1 00000001/1 00000000/2", "");
        covers("the last input and an output", x, EXPAND, 2, 8, "0000000-/1 00000000/3");
    }

    private static void equalCubesGo() {
        for (int cap = 4; cap <= 16; cap++) {
            TwoLevelMinimizer x = new TwoLevelMinimizer(2, 2, cap);
            for (int k = 0; k < cap; k++) {
                x.addOn(Cubes.part("01"), 2);
            }
            x.begin();
            check.due(cap + " equal cubes", x.expand(), 1);
            check.due("the cover", Cubes.cover(x, 2), "01/2");
        }
        TwoLevelMinimizer x = Cubes.begun(1, "00/1 11/1 00/1 11/1 00/1", "");
        covers("equal cubes by turns", x, EXPAND, 2, 2, "00/1 11/1");
        // Cubes that have become equal count as well.
        x = Cubes.begun(1, "00/1 1-/1 01/1", "");
        covers("cubes that become equal", x, EXPAND, 1, 2, "--/1");
    }

    private static void cubeItselfStays() {
        for (int n = 1; n <= 8; n++) {
            TwoLevelMinimizer x = new TwoLevelMinimizer(n, 4, 4);
            x.addOn(Cubes.every(n, 1), 8);
            x.begin();
            check.due("n = " + n + ", the only cube", x.expand(), 1);
            check.due("cubeInputs(0)", x.cubeInputs(0), Cubes.every(n, 1));
            check.due("cubeOutputs(0)", x.cubeOutputs(0), 8);
        }
    }

    private static void subsetByBoth() {
        // 00/3 lies in 0-/1 by its input part alone: it stays.
        TwoLevelMinimizer x = Cubes.begun(2, "0-/1 00/3", "");
        covers("a subset by the input part alone", x, EXPAND, 2, 2, "0-/1 00/3");
        // -0/1 lies in 0-/3 by its mask alone: it stays.
        x = Cubes.begun(2, "0-/3 -0/1", "");
        covers("a subset by the mask alone", x, EXPAND, 2, 2, "0-/3 -0/1");
        x = Cubes.begun(2, "0-/3 00/1", "");
        covers("a subset by both", x, EXPAND, 1, 2, "0-/3");
        x = Cubes.begun(2, "0-/3 00/3", "");
        covers("a subset with an equal mask", x, EXPAND, 1, 2, "0-/3");
        x = Cubes.begun(2, "0-/3 0-/2", "");
        covers("a subset with an equal input part", x, EXPAND, 1, 2, "0-/3");
    }

    private static void noneIsSkipped() {
        TwoLevelMinimizer x = Cubes.begun(1, "000/1 000/1 111/1 110/1", "");
        covers("the next cube is raised after a removal", x, EXPAND, 2, 3, "000/1 11-/1");
        x = Cubes.begun(1, "000/1 011/1 000/1 101/1 000/1 110/1 111/1", "");
        covers("so are those that moved down", x, EXPAND, 4, 3, "000/1 -11/1 1-1/1 11-/1");
    }

    private static void expandAtFullCapacity() {
        for (int cap = 4; cap <= 16; cap++) {
            TwoLevelMinimizer x = apart(cap, "");
            String before = Seen.cover(x);
            check.due(cap + " cubes that can't be raised", x.expand(), cap);
            check.due("the cover", Seen.cover(x), before);
            check.due("cubeCount()", x.cubeCount(), cap);
        }
    }

    // So many cubes at output 1, each two steps from every other: none can be raised in an input.
    private static TwoLevelMinimizer apart(int count, String dc) {
        TwoLevelMinimizer x = new TwoLevelMinimizer(8, 2, count);
        for (int k = 0; k < count; k++) {
            int part = withField(Cubes.every(8, 1), 4, Integer.bitCount(k) % 2 == 0 ? 1 : 2);
            for (int i = 0; i < 4; i++) {
                part = withField(part, i, ((k >> i) & 1) == 0 ? 1 : 2);
            }
            x.addOn(part, 2);
        }
        Cubes.feed(x, "", dc);
        x.begin();
        return x;
    }

    // Promise 6

    private static void removing() {
        check.sentence("6: a cube containing no ON point is redundant", PassesEdgesTest::noOnPoint);
        check.sentence("6: every ON point also in a cube at another position", PassesEdgesTest::oneOwnPoint);
        check.sentence("6: at another position, equal cubes too", PassesEdgesTest::equalCubesAreRedundant);
        check.sentence("6: of the current list", PassesEdgesTest::removedCubesCountNoMore);
        check.sentence("6: remove it and keep pos", PassesEdgesTest::redundantInARow);
        check.sentence("6: the cubes that stay keep their order and are not altered", PassesEdgesTest::othersStay);
    }

    private static void noOnPoint() {
        TwoLevelMinimizer x = Cubes.begun(1, "1/1", "1/1");
        covers("the only cube", x, IRREDUNDANT, 0, 1, "");
        x = Cubes.begun(4, "--------/15", "--------/15");
        covers("the greatest cube", x, IRREDUNDANT, 0, 8, "");
        x = Cubes.begun(1, "1-/1 00/1", "1-/1");
        covers("the first cube", x, IRREDUNDANT, 1, 2, "00/1");
        x = Cubes.begun(1, "00/1 1-/1", "10/1 11/1");
        covers("the last cube", x, IRREDUNDANT, 1, 2, "00/1");
        x = Cubes.begun(2, "00/1 1-/2 01/1", "1-/2");
        covers("a cube in the middle", x, IRREDUNDANT, 2, 2, "00/1 01/1");
        x = Cubes.begun(2, "1/1", "1/2");
        covers("a don't-care at another output", x, IRREDUNDANT, 1, 1, "1/1");
        x = Cubes.begun(1, "1-/1", "10/1");
        covers("a don't-care at another minterm", x, IRREDUNDANT, 1, 2, "1-/1");
        for (int cap = 4; cap <= 16; cap++) {
            x = apart(cap, "--------/2");
            check.due(cap + " cubes under don't-cares", x.irredundant(), 0);
        }
    }

    private static void oneOwnPoint() {
        for (int n = 1; n <= 8; n++) {
            // Without the point of the last minterm the great cube has none of its own.
            TwoLevelMinimizer x = allButOne(n);
            x.addOn(Cubes.every(n, 3), 1);
            x.begin();
            check.due("n = " + n + ", all of them within the last", x.irredundant(), 1);
            check.due("cubeInputs(0)", x.cubeInputs(0), Cubes.every(n, 3));
            x = new TwoLevelMinimizer(n, 1, 16);
            x.addOn(Cubes.every(n, 3), 1);
            for (int i = 0; i < n; i++) {
                x.addOn(withField(Cubes.every(n, 3), i, 1), 1);
            }
            x.begin();
            check.due("n = " + n + ", one point of its own", x.irredundant(), 1);
            check.due("cubeInputs(0)", x.cubeInputs(0), Cubes.every(n, 3));
            x.clear();
            x.addOn(Cubes.every(n, 3), 1);
            for (int i = 0; i < n; i++) {
                x.addOn(withField(Cubes.every(n, 3), i, 1), 1);
            }
            x.addDc(Cubes.every(n, 2), 1);
            x.begin();
            check.due("n = " + n + ", no point of its own", x.irredundant(), n);
            check.due("cubeInputs(0)", x.cubeInputs(0), withField(Cubes.every(n, 3), 0, 1));
        }
        TwoLevelMinimizer x = Cubes.begun(4, "0/15 -/1 -/2 -/4", "");
        covers("one output of its own", x, IRREDUNDANT, 4, 1, "0/15 -/1 -/2 -/4");
        x = Cubes.begun(4, "0/15 -/1 -/2 -/4 -/8", "");
        covers("no output of its own", x, IRREDUNDANT, 4, 1, "-/1 -/2 -/4 -/8");
    }

    private static void equalCubesAreRedundant() {
        for (int cap = 4; cap <= 16; cap++) {
            TwoLevelMinimizer x = new TwoLevelMinimizer(2, 2, cap);
            for (int k = 0; k < cap; k++) {
                x.addOn(Cubes.part("01"), 2);
            }
            x.begin();
            check.due(cap + " equal cubes", x.irredundant(), 1);
            check.due("the cover", Cubes.cover(x, 2), "01/2");
        }
        // The first of two equal ones goes, the second has no other left.
        TwoLevelMinimizer x = Cubes.begun(1, "0-/1 11/1 0-/1", "");
        covers("two equal cubes apart", x, IRREDUNDANT, 2, 2, "11/1 0-/1");
    }

    private static void removedCubesCountNoMore() {
        TwoLevelMinimizer x = Cubes.begun(1, "-00/1 1-0/1 11-/1 -11/1 0-1/1 00-/1", "");
        covers("a ring", x, IRREDUNDANT, 3, 3, "1-0/1 -11/1 00-/1");
        covers("the ring again", x, IRREDUNDANT, 3, 3, "1-0/1 -11/1 00-/1");
    }

    private static void redundantInARow() {
        TwoLevelMinimizer x = Cubes.begun(1, "00/1 01/1 0-/1 10/1 11/1 1-/1", "");
        covers("two, twice", x, IRREDUNDANT, 2, 2, "0-/1 1-/1");
        x = Cubes.begun(1, "--/1 00/1 01/1 10/1", "");
        covers("all after the first", x, IRREDUNDANT, 1, 2, "--/1");
        x = Cubes.begun(1, "00/1 01/1 10/1 11/1 --/1", "");
        covers("all before the last", x, IRREDUNDANT, 1, 2, "--/1");
    }

    private static void othersStay() {
        // The cubes that stay could be raised and reduced, and are neither.
        TwoLevelMinimizer x = Cubes.begun(2, "11/1 0-/1 11/1 -0/1 01/3 00/2", "10/2");
        covers("among redundant ones", x, IRREDUNDANT, 4, 2, "11/1 -0/1 01/3 00/2");
        for (int cap = 4; cap <= 16; cap++) {
            x = apart(cap, "");
            String before = Seen.cover(x);
            check.due(cap + " needed cubes", x.irredundant(), cap);
            check.due("the cover", Seen.cover(x), before);
        }
    }

    // Promise 7

    private static void reducing() {
        check.sentence("7: if U is empty, remove the cube", PassesEdgesTest::nothingOfItsOwn);
        check.sentence("7: and keep pos", PassesEdgesTest::nothingOfItsOwnInARow);
        check.sentence("7: bit 2i, bit 2i+1 and bit o set iff a point of U", PassesEdgesTest::oneOwnPointOfAll);
        check.sentence("7: all points of U", PassesEdgesTest::allPointsAreItsOwn);
        check.sentence("7: in no cube at another position, one by one", PassesEdgesTest::earlierOnesAreReduced);
        check.sentence("7: no bit at position 2n or above is set", PassesEdgesTest::noBitPastTheInputs);
        check.sentence("7: the answer is the final count", PassesEdgesTest::reduceAtFullCapacity);
    }

    private static void nothingOfItsOwn() {
        TwoLevelMinimizer x = Cubes.begun(1, "1/1", "1/1");
        covers("the only cube, under a don't-care", x, REDUCE, 0, 1, "");
        x = Cubes.begun(4, "--------/15", "--------/15");
        covers("the greatest cube, under a don't-care", x, REDUCE, 0, 8, "");
        x = Cubes.begun(1, "00/1 0-/1", "");
        covers("the first cube", x, REDUCE, 1, 2, "0-/1");
        x = Cubes.begun(1, "00/1 11/1 1-/1", "1-/1");
        covers("the last cubes", x, REDUCE, 1, 2, "00/1");
        x = Cubes.begun(1, "000/1 101/1 110/1 011/1 111/1 11-/1", "111/1");
        covers("after others that stay, and before one", x, REDUCE, 4, 3, "000/1 101/1 011/1 110/1");
        x = Cubes.begun(1, "000/1 101/1 110/1 011/1 111/1", "111/1");
        covers("after others that stay", x, REDUCE, 4, 3, "000/1 101/1 110/1 011/1");
        x = Cubes.begun(2, "0/3 0/1 0/2", "");
        covers("a cube whose outputs two others hold", x, REDUCE, 2, 1, "0/1 0/2");
    }

    private static void nothingOfItsOwnInARow() {
        TwoLevelMinimizer x = Cubes.begun(1, "00/1 01/1 0-/1 10/1 11/1 1-/1", "");
        covers("two, twice", x, REDUCE, 2, 2, "0-/1 1-/1");
        for (int cap = 4; cap <= 16; cap++) {
            x = new TwoLevelMinimizer(2, 2, cap);
            for (int k = 0; k < cap; k++) {
                x.addOn(Cubes.part("0-"), 2);
            }
            x.begin();
            check.due(cap + " equal cubes", x.reduce(), 1);
            check.due("the cover", Cubes.cover(x, 2), "0-/2");
            x = apart(cap, "--------/2");
            check.due(cap + " cubes under don't-cares", x.reduce(), 0);
        }
    }

    // Every point is ON by one cube, and all but (m,o) are then made don't-cares.
    private static TwoLevelMinimizer oneLeftOn(int n, int q, int m, int o) {
        TwoLevelMinimizer x = new TwoLevelMinimizer(n, q, 16);
        int all = Cubes.every(n, 3);
        int minterm = 0;
        x.addOn(all, (1 << q) - 1);
        for (int i = 0; i < n; i++) {
            int value = (m >> i) & 1;
            minterm |= 1 << (2 * i + value);
            x.addDc(withField(all, i, value == 0 ? 2 : 1), (1 << q) - 1);
        }
        if (q > 1) {
            x.addDc(minterm, ((1 << q) - 1) & ~(1 << o));
        }
        x.begin();
        return x;
    }

    private static void oneOwnPointOfAll() {
        for (int n = 1; n <= 8; n++) {
            for (int q = 1; q <= 4; q++) {
                for (int m = 0; m < 1 << n; m++) {
                    int o = m % q;
                    TwoLevelMinimizer x = oneLeftOn(n, q, m, o);
                    String when = "n = " + n + ", q = " + q + ", (" + m + ", " + o + ") alone is ON: ";
                    check.due(when + "reduce()", x.reduce(), 1);
                    int part = x.cubeInputs(0);
                    for (int i = 0; i < n; i++) {
                        check.due(when + "field " + i, (part >> (2 * i)) & 3, ((m >> i) & 1) == 0 ? 1 : 2);
                    }
                    check.due(when + "cubeOutputs(0)", x.cubeOutputs(0), 1 << o);
                }
            }
        }
    }

    private static void allPointsAreItsOwn() {
        for (int n = 1; n <= 8; n++) {
            for (int q = 1; q <= 4; q++) {
                TwoLevelMinimizer x = new TwoLevelMinimizer(n, q, 4);
                x.addOn(Cubes.every(n, 3), (1 << q) - 1);
                x.begin();
                String before = Seen.all(x);
                check.due("n = " + n + ", q = " + q + ", the cube of all points", x.reduce(), 1);
                check.due("what is seen afterwards", Seen.all(x), before);
            }
        }
        // Two points at opposite corners need the whole cube; of 1-- they are 101 and 110.
        TwoLevelMinimizer x = Cubes.begun(1, "---/1 1--/1 0-1/1 01-/1", "111/1 100/1");
        covers("opposite corners of 1--", x, REDUCE, 4, 3, "000/1 1--/1 001/1 01-/1");
        x = Cubes.begun(1, "--/1 10/1 01/1", "");
        covers("opposite corners", x, REDUCE, 1, 2, "--/1");
        x = Cubes.begun(2, "-/3 1/1 0/2", "");
        covers("opposite outputs", x, REDUCE, 1, 1, "-/3");
    }

    private static void earlierOnesAreReduced() {
        TwoLevelMinimizer x = Cubes.begun(1, "0-/1 -0/1", "");
        covers("the later one is whole yet", x, REDUCE, 2, 2, "01/1 -0/1");
        x = Cubes.begun(1, "-00/1 1-0/1 11-/1 -11/1 0-1/1 00-/1", "");
        covers("a ring", x, REDUCE, 5, 3, "100/1 110/1 111/1 011/1 00-/1");
        x = Cubes.begun(4, "0/3 -/1 0/6 -/2", "");
        covers("by outputs", x, REDUCE, 3, 1, "-/1 0/4 -/2");
    }

    private static void noBitPastTheInputs() {
        for (int n = 1; n <= 8; n++) {
            int all = Cubes.every(n, 3);
            TwoLevelMinimizer x = new TwoLevelMinimizer(n, 2, 4);
            x.addOn(all, 3);
            x.addOn(withField(all, n - 1, 1), 1);
            x.begin();
            check.due("n = " + n + ", reduce()", x.reduce(), 1);
            check.due("n = " + n + ", all points", x.cubeInputs(0), all);
            x.clear();
            x.addOn(all, 1);
            x.addOn(withField(all, n - 1, 2), 1);
            x.begin();
            check.due("n = " + n + ", reduce()", x.reduce(), 2);
            check.due("n = " + n + ", the last input at 0", x.cubeInputs(0), withField(all, n - 1, 1));
            check.due("n = " + n + ", the last input at 1", x.cubeInputs(1), withField(all, n - 1, 2));
            x.clear();
            x.addOn(Cubes.every(n, 2), 2);
            x.begin();
            x.reduce();
            check.due("n = " + n + ", the last minterm", x.cubeInputs(0), Cubes.every(n, 2));
        }
    }

    private static void reduceAtFullCapacity() {
        for (int cap = 4; cap <= 16; cap++) {
            TwoLevelMinimizer x = apart(cap, "");
            String before = Seen.cover(x);
            check.due(cap + " needed cubes", x.reduce(), cap);
            check.due("the cover", Seen.cover(x), before);
            check.due("cubeCount()", x.cubeCount(), cap);
        }
    }

    // Promise 8

    private static void improving() {
        check.sentence("8: C1 is lower by its count", PassesEdgesTest::lowerByCount);
        check.sentence("8: C1 is lower by its count, with more literals", PassesEdgesTest::lowerByCountAlone);
        check.sentence("8: C1 is lower by its literals at the same count", PassesEdgesTest::lowerByLiterals);
        check.sentence("8: equal cost counts as not lower", PassesEdgesTest::equalCost);
        check.sentence("8: otherwise, with more literals", PassesEdgesTest::higherCost);
        check.sentence("8: an empty cover gives NOT_IMPROVED", PassesEdgesTest::improveNothing);
        check.sentence("8: restored exactly, at every count", PassesEdgesTest::restoredAtEveryCount);
        check.sentence("8: exactly what reduce, expand, irredundant perform", PassesEdgesTest::asByHand);
    }

    private static void lowerByCount() {
        TwoLevelMinimizer x = Cubes.begun(2, "11/3 -0/2 00/3", "11/1");
        covers("three cubes to two", x, IMPROVE, 1, 2, "1-/2 00/3");
        x = Cubes.begun(1, "-/1", "-/1");
        covers("one cube to none", x, IMPROVE, 1, 1, "");
        x = Cubes.begun(1, "-/1 -/1", "");
        covers("two cubes to one, without literals", x, IMPROVE, 1, 1, "-/1");
        x = new TwoLevelMinimizer(8, 4, 16);
        for (int k = 0; k < 16; k++) {
            x.addOn(Cubes.every(8, 3), 15);
        }
        x.begin();
        covers("sixteen cubes to one", x, IMPROVE, 1, 8, "--------/15");
    }

    private static void lowerByCountAlone() {
        TwoLevelMinimizer x = Cubes.begun(3, "--1/6 -0-/6 0--/5 0-1/7 00-/7 ---/4", "110/1");
        check.due("literalCount() before", x.literalCount(), 7);
        covers("from (6, 7) to (5, 8)", x, IMPROVE, 1, 3, "--1/6 -0-/6 -10/5 0-1/7 00-/7");
        check.due("literalCount() after", x.literalCount(), 8);
    }

    private static void lowerByLiterals() {
        TwoLevelMinimizer x = Cubes.begun(1, "0/1", "1/1");
        covers("from (1, 1) to (1, 0)", x, IMPROVE, 1, 1, "-/1");
        x = Cubes.begun(2, "01/3 -1/2", "-0/1");
        covers("from (2, 3) to (2, 2)", x, IMPROVE, 1, 2, "0-/1 -1/2");
        for (int cap = 4; cap <= 16; cap++) {
            x = apart(cap, "-----1--/2 ------1-/2 -------1/2");
            check.due("literalCount() before", x.literalCount(), 8 * cap);
            check.due(cap + " cubes with three literals too many", x.improve(), 1);
            check.due("cubeCount() after", x.cubeCount(), cap);
            check.due("literalCount() after", x.literalCount(), 5 * cap);
        }
    }

    private static void equalCost() {
        TwoLevelMinimizer x = Cubes.begun(1, "0/1", "");
        covers("nothing to be done", x, IMPROVE, 0, 1, "0/1");
        // The passes would give 1/3.
        x = Cubes.begun(2, "1/2", "1/1");
        covers("another mask at the same cost", x, IMPROVE, 0, 1, "1/2");
        // They would give -0/1 11/3.
        x = Cubes.begun(2, "1-/1 11/3", "00/1");
        covers("other literals at the same cost", x, IMPROVE, 0, 2, "1-/1 11/3");
        x = Cubes.begun(1, "-/1", "");
        covers("without literals", x, IMPROVE, 0, 1, "-/1");
    }

    private static void higherCost() {
        // They would give 000/3 -00/1 1-1/3, with one literal more.
        TwoLevelMinimizer x = Cubes.begun(2, "000/3 1--/1 1-1/3", "110/1");
        covers("one literal more", x, IMPROVE, 0, 3, "000/3 1--/1 1-1/3");
        covers("and again", x, IMPROVE, 0, 3, "000/3 1--/1 1-1/3");
        check.due("literalCount()", x.literalCount(), 6);
    }

    private static void improveNothing() {
        for (TwoLevelMinimizer x : States.emptyCovers()) {
            check.due("improve() of an empty cover", x.improve(), 0);
            check.due("cubeCount()", x.cubeCount(), 0);
        }
        // A cover remembered by an earlier call must not come back.
        TwoLevelMinimizer x = Cubes.begun(1, "00/1 11/1", "");
        check.due("improve() with nothing to be done", x.improve(), 0);
        x.clear();
        x.begin();
        check.due("improve() of an empty cover after that", x.improve(), 0);
        check.due("cubeCount()", x.cubeCount(), 0);
    }

    private static void restoredAtEveryCount() {
        for (int cap = 4; cap <= 16; cap++) {
            // By the don't-cares the passes would give every cube the mask 3.
            TwoLevelMinimizer x = apart(cap, "--------/1");
            String before = Seen.all(x);
            for (int round = 0; round < 3; round++) {
                check.due(cap + " cubes", x.improve(), 0);
                check.due("what is seen afterwards", Seen.all(x), before);
            }
            check.due("expand() would have changed them", x.expand(), cap);
            check.due("cubeOutputs(cap-1)", x.cubeOutputs(cap - 1), 3);
        }
    }

    // A random cover; most are worked on first, for then improve seldom helps and has to restore.
    private static TwoLevelMinimizer someCover(int run) {
        Sequence numbers = new Sequence(run);
        int n = run % 50 == 0 ? 8 : 1 + numbers.below(5);
        int q = 1 + numbers.below(4);
        int cap = 4 + numbers.below(13);
        TwoLevelMinimizer x = new TwoLevelMinimizer(n, q, cap);
        for (int k = 0; k < cap; k++) {
            int part = numbers.part(n, 2);
            int mask = numbers.mask(q);
            if (k < cap / 3) {
                x.addDc(part, mask);
            } else {
                x.addOn(part, mask);
            }
        }
        x.begin();
        if (run % 3 != 0) {
            x.expand();
            x.irredundant();
        }
        return x;
    }

    private static void asByHand() {
        int kept = 0;
        int restored = 0;
        for (int run = 0; run < 6000; run++) {
            TwoLevelMinimizer x = someCover(run);
            String before = Seen.cover(x);
            int count = x.cubeCount();
            int literals = x.literalCount();
            TwoLevelMinimizer y = someCover(run);
            y.reduce();
            y.expand();
            y.irredundant();
            boolean lower = y.cubeCount() < count || y.cubeCount() == count && y.literalCount() < literals;
            check.due("run " + run + ", improve()", x.improve(), lower ? 1 : 0);
            check.due("run " + run + ", the cover", Seen.cover(x), lower ? Seen.cover(y) : before);
            kept += lower ? 1 : 0;
            restored += lower || Seen.cover(y).equals(before) ? 0 : 1;
        }
        check.due("at least 100 covers were kept", kept >= 100, true);
        check.due("at least 100 covers had changed and were restored", restored >= 100, true);
    }
}
