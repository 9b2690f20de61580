/** Promises 1 to 4 and 9: each sentence of theirs that names a boundary case has a test of its own. */
public final class FeedingEdgesTest {
    private static final Check check = new Check("FeedingEdgesTest");
    private static final int LEAST = Integer.MIN_VALUE;
    private static final int GREATEST = Integer.MAX_VALUE;
    private static final int[][] SIZES = {{1, 1, 4}, {1, 4, 16}, {2, 3, 5}, {5, 2, 9}, {8, 1, 4}, {8, 4, 16}};

    /** addOn or addDc: promise 3 asks of the one what promise 2 asks of the other. */
    private interface Adding {
        int add(TwoLevelMinimizer x, int part, int mask);
    }

    public static void main(String[] args) {
        construction();
        adding("2", TwoLevelMinimizer::addOn, TwoLevelMinimizer::addDc);
        adding("3", TwoLevelMinimizer::addDc, TwoLevelMinimizer::addOn);
        beginning();
        clearing();
        check.end();
    }

    // Promise 1

    private static void construction() {
        check.sentence("1: accepts every int value of each argument", FeedingEdgesTest::everyArgument);
        check.sentence("1: a value below the least becomes the least", FeedingEdgesTest::tooSmall);
        check.sentence("1: a value above the greatest becomes the greatest", FeedingEdgesTest::tooLarge);
        check.sentence("1: this holds for MIN_VALUE and MAX_VALUE as well", FeedingEdgesTest::outermost);
        check.sentence("1: the values between are kept", FeedingEdgesTest::between);
        check.sentence("1: at the start F is OFF for every point", FeedingEdgesTest::startsOff);
        check.sentence("1: at the start the stores and the cover are empty", FeedingEdgesTest::startsEmpty);
        check.sentence("1: the phase is FEEDING", FeedingEdgesTest::startsFeeding);
        check.sentence("1: n, q and cap never change afterwards", FeedingEdgesTest::sizesStay);
        check.sentence("1: not even through clear()", FeedingEdgesTest::sizesStayThroughClear);
    }

    private static void made(int inputs, int outputs, int capacity, int n, int q, int cap) {
        String given = "new(" + inputs + ", " + outputs + ", " + capacity + "):";
        Sizes.all(check, given, new TwoLevelMinimizer(inputs, outputs, capacity), n, q, cap);
    }

    private static int clamped(long value, long least, long greatest) {
        return (int) Math.max(least, Math.min(greatest, value));
    }

    private static void everyArgument() {
        int[] given = {LEAST, -65536, -1, 0, 1, 3, 4, 5, 8, 9, 16, 17, 256, 65536, GREATEST};
        for (int inputs : given) {
            for (int outputs : given) {
                for (int capacity : given) {
                    made(inputs, outputs, capacity,
                            clamped(inputs, 1, 8), clamped(outputs, 1, 4), clamped(capacity, 4, 16));
                }
            }
        }
    }

    private static void tooSmall() {
        int[] below = {0, -1, -2, -3, -8, -15, -16, -256, -65535, -65536, -(1 << 30), LEAST + 8, LEAST + 1};
        for (int value : below) {
            made(value, 2, 6, 1, 2, 6);
            made(3, value, 6, 3, 1, 6);
            made(3, 2, value, 3, 2, 4);
        }
        for (int value = 1; value < 4; value++) {
            made(3, 2, value, 3, 2, 4);
        }
    }

    private static void tooLarge() {
        int[] above = {17, 18, 20, 24, 32, 33, 256, 257, 65536, 65537, 1 << 30, GREATEST - 8, GREATEST - 1};
        for (int value : above) {
            made(value, 2, 6, 8, 2, 6);
            made(3, value, 6, 3, 4, 6);
            made(3, 2, value, 3, 2, 16);
        }
        for (int value = 5; value < 17; value++) {
            made(3, value, 6, 3, 4, 6);
        }
        for (int value = 9; value < 17; value++) {
            made(value, 2, 6, 8, 2, 6);
        }
    }

    private static void outermost() {
        for (int which = 0; which < 8; which++) {
            boolean inputs = (which & 1) != 0;
            boolean outputs = (which & 2) != 0;
            boolean capacity = (which & 4) != 0;
            made(inputs ? GREATEST : LEAST, outputs ? GREATEST : LEAST, capacity ? GREATEST : LEAST,
                    inputs ? 8 : 1, outputs ? 4 : 1, capacity ? 16 : 4);
        }
    }

    private static void between() {
        for (int n = 1; n <= 8; n++) {
            for (int q = 1; q <= 4; q++) {
                for (int cap = 4; cap <= 16; cap++) {
                    made(n, q, cap, n, q, cap);
                }
            }
        }
    }

    private static void everyPoint(String when, TwoLevelMinimizer x, int n, int q) {
        for (int m = 0; m < 1 << n; m++) {
            for (int o = 0; o < q; o++) {
                check.due(when + " function(" + m + ", " + o + ")", x.function(m, o), 0);
                check.due(when + " evaluate(" + m + ", " + o + ")", x.evaluate(m, o), 0);
            }
        }
    }

    private static void startsOff() {
        for (int n = 1; n <= 8; n++) {
            for (int q = 1; q <= 4; q++) {
                TwoLevelMinimizer x = new TwoLevelMinimizer(n, q, 16);
                everyPoint("new:", x, n, q);
                check.due("new: no implicant", x.isImplicant(Cubes.every(n, 1), 1), false);
            }
        }
        everyPoint("new(MIN_VALUE):", new TwoLevelMinimizer(LEAST, LEAST, LEAST), 1, 1);
        everyPoint("new(MAX_VALUE):", new TwoLevelMinimizer(GREATEST, GREATEST, GREATEST), 8, 4);
    }

    private static void nothingHeld(String when, TwoLevelMinimizer x) {
        check.due(when + " cubeCount()", x.cubeCount(), 0);
        check.due(when + " literalCount()", x.literalCount(), 0);
        check.due(when + " cubeInputs(0)", x.cubeInputs(0), -5);
        check.due(when + " cubeOutputs(0)", x.cubeOutputs(0), -5);
    }

    private static void startsEmpty() {
        int[] given = {LEAST, -1, 0, 1, 4, 8, 16, GREATEST};
        for (int value : given) {
            TwoLevelMinimizer x = new TwoLevelMinimizer(value, value, value);
            nothingHeld("new:", x);
            check.due("new: the first on-cube", x.addOn(Cubes.every(clamped(value, 1, 8), 3), 1), 0);
            check.due("new: the first dc-cube", x.addDc(Cubes.every(clamped(value, 1, 8), 3), 1), 0);
            x = new TwoLevelMinimizer(value, value, value);
            check.due("new: begin() has no on-cube to copy", x.begin(), 0);
        }
    }

    private static void startsFeeding() {
        int[] given = {LEAST, -1, 0, 1, 4, 8, 16, GREATEST};
        for (int value : given) {
            TwoLevelMinimizer x = new TwoLevelMinimizer(value, value, value);
            check.due("new: phase()", x.phase(), 0);
            check.due("new: expand()", x.expand(), -1);
        }
    }

    private static void sizesStay() {
        for (int[] size : SIZES) {
            int n = size[0];
            int q = size[1];
            TwoLevelMinimizer x = new TwoLevelMinimizer(n, q, size[2]);
            x.improve();
            x.addOn(-1, -1);
            Sizes.all(check, "after refused calls", x, n, q, size[2]);
            Sizes.points(check, "after begin()", x, n, q);
            x.reduce();
            Sizes.points(check, "after reduce()", x, n, q);
            x.expand();
            Sizes.points(check, "after expand()", x, n, q);
            x.irredundant();
            Sizes.points(check, "after irredundant()", x, n, q);
            x.improve();
            Sizes.points(check, "after improve()", x, n, q);
            check.due("begin() after the passes", x.begin(), size[2]);
        }
    }

    private static void sizesStayThroughClear() {
        for (int[] size : SIZES) {
            TwoLevelMinimizer x = new TwoLevelMinimizer(size[0], size[1], size[2]);
            x.clear();
            for (int round = 1; round <= 3; round++) {
                Sizes.all(check, "cleared " + round + " times:", x, size[0], size[1], size[2]);
                x.irredundant();
                x.clear();
            }
        }
        TwoLevelMinimizer x = new TwoLevelMinimizer(LEAST, GREATEST, LEAST);
        x.clear();
        Sizes.all(check, "new(MIN_VALUE, MAX_VALUE, MIN_VALUE), cleared:", x, 1, 4, 4);
        x = new TwoLevelMinimizer(GREATEST, LEAST, GREATEST);
        x.clear();
        Sizes.all(check, "new(MAX_VALUE, MIN_VALUE, MAX_VALUE), cleared:", x, 8, 1, 16);
    }

    // Promises 2 and 3

    private static void adding(String promise, Adding mine, Adding other) {
        String p = promise + ": ";
        check.sentence(p + "phase is WORKING -> ERR_PHASE", () -> whileWorking(mine));
        check.sentence(p + "inputPart not valid, it is negative", () -> negativeParts(mine));
        check.sentence(p + "inputPart not valid, a bit at 2n or above", () -> partsTooLong(mine));
        check.sentence(p + "inputPart not valid, a field 00", () -> voidFields(mine));
        check.sentence(p + "every valid inputPart is taken", () -> validParts(mine));
        check.sentence(p + "outputMask not valid, below 1", () -> masksTooSmall(mine));
        check.sentence(p + "outputMask not valid, 2^q or above", () -> masksTooLarge(mine));
        check.sentence(p + "every valid outputMask is taken", () -> validMasks(mine));
        check.sentence(p + "cap cubes already held -> ERR_FULL", () -> full(mine));
        check.sentence(p + "answers the first that applies", () -> firstThatApplies(mine));
        check.sentence(p + "nothing changes, ERR_PHASE", () -> unchangedByPhase(mine));
        check.sentence(p + "nothing changes, ERR_CUBE", () -> unchangedByCube(mine));
        check.sentence(p + "nothing changes, ERR_OUTPUTS", () -> unchangedByOutputs(mine));
        check.sentence(p + "nothing changes, ERR_FULL", () -> unchangedByFull(mine));
        check.sentence(p + "duplicates allowed", () -> duplicates(mine));
        check.sentence(p + "0 for the first one, up to cap-1", () -> indexes(mine));
        check.sentence(p + "the cover is not changed, the phase stays FEEDING", () -> coverStays(mine));
        check.sentence(p + "the other store is not changed", () -> otherStoreStays(mine, other));
        check.sentence(p + "a full store does not hinder the other", () -> fullOtherStore(mine, other));
        check.sentence(p + "F is taken over the cubes added so far", () -> functionFollows(promise, mine));
    }

    private static void whileWorking(Adding mine) {
        for (int[] size : SIZES) {
            TwoLevelMinimizer x = new TwoLevelMinimizer(size[0], size[1], size[2]);
            int part = Cubes.every(size[0], 3);
            x.begin();
            check.due("WORKING on no cubes", mine.add(x, part, 1), -1);
            x.clear();
            check.due("FEEDING again", mine.add(x, part, 1), 0);
            x.begin();
            check.due("WORKING", mine.add(x, part, 1), -1);
            x.improve();
            check.due("WORKING after improve()", mine.add(x, part, 1), -1);
        }
        // The cover may have fewer cubes than the store by now, or none.
        TwoLevelMinimizer y = Cubes.begun(1, "00/1 10/1 0-/1", "");
        y.expand();
        check.due("WORKING after expand()", mine.add(y, 15, 1), -1);
        for (TwoLevelMinimizer empty : States.emptyCovers()) {
            check.due("WORKING on an empty cover", mine.add(empty, 3, 1), -1);
        }
    }

    private static void refusedPart(Adding mine, int n, int part) {
        TwoLevelMinimizer x = new TwoLevelMinimizer(n, 4, 4);
        check.due("n = " + n + ", inputPart " + part, mine.add(x, part, 1), -2);
    }

    private static void negativeParts(Adding mine) {
        for (int n = 1; n <= 8; n++) {
            for (int field = 1; field <= 3; field++) {
                int part = Cubes.every(n, field);
                refusedPart(mine, n, part | LEAST);
                refusedPart(mine, n, -part);
                refusedPart(mine, n, ~part);
            }
            refusedPart(mine, n, -1);
            refusedPart(mine, n, LEAST);
            refusedPart(mine, n, LEAST + 1);
        }
    }

    private static void partsTooLong(Adding mine) {
        for (int n = 1; n <= 8; n++) {
            for (int field = 1; field <= 3; field++) {
                int part = Cubes.every(n, field);
                for (int bit = 2 * n; bit <= 30; bit++) {
                    refusedPart(mine, n, part | (1 << bit));
                }
                refusedPart(mine, n, part | (3 << (2 * n)));
            }
            refusedPart(mine, n, GREATEST);
        }
    }

    private static void voidFields(Adding mine) {
        for (int n = 1; n <= 8; n++) {
            for (int field = 1; field <= 3; field++) {
                for (int i = 0; i < n; i++) {
                    refusedPart(mine, n, Cubes.every(n, field) & ~(3 << (2 * i)));
                }
            }
            refusedPart(mine, n, 0);
        }
    }

    private static void validParts(Adding mine) {
        for (int n = 1; n <= 8; n++) {
            for (int part = 0; part < 1 << (2 * n); part++) {
                boolean valid = true;
                for (int i = 0; i < n; i++) {
                    valid &= ((part >> (2 * i)) & 3) != 0;
                }
                if (valid) {
                    TwoLevelMinimizer x = new TwoLevelMinimizer(n, 1, 4);
                    check.due("n = " + n + ", inputPart " + part, mine.add(x, part, 1), 0);
                }
            }
        }
        TwoLevelMinimizer x = new TwoLevelMinimizer(3, 1, 4);
        check.due("the document's x0 x1'", mine.add(x, 54, 1), 0);
    }

    private static void refusedMask(Adding mine, int q, int mask) {
        TwoLevelMinimizer x = new TwoLevelMinimizer(2, q, 4);
        check.due("q = " + q + ", outputMask " + mask, mine.add(x, 15, mask), -3);
    }

    private static void masksTooSmall(Adding mine) {
        for (int q = 1; q <= 4; q++) {
            int[] masks = {0, -1, -2, -(1 << q), -65536, LEAST + 1, LEAST};
            for (int mask : masks) {
                refusedMask(mine, q, mask);
            }
            for (int mask = 1; mask < 1 << q; mask++) {
                refusedMask(mine, q, mask | LEAST);
                refusedMask(mine, q, -mask);
            }
        }
    }

    private static void masksTooLarge(Adding mine) {
        for (int q = 1; q <= 4; q++) {
            for (int bit = q; bit <= 30; bit++) {
                refusedMask(mine, q, 1 << bit);
                refusedMask(mine, q, (1 << bit) + 1);
                refusedMask(mine, q, (1 << bit) + (1 << q) - 1);
            }
            refusedMask(mine, q, GREATEST);
        }
    }

    private static void validMasks(Adding mine) {
        for (int q = 1; q <= 4; q++) {
            for (int mask = 1; mask < 1 << q; mask++) {
                TwoLevelMinimizer x = new TwoLevelMinimizer(2, q, 4);
                check.due("q = " + q + ", outputMask " + mask, mine.add(x, 15, mask), 0);
            }
        }
    }

    private static void fill(Adding adding, TwoLevelMinimizer x, int cap, int part, int mask) {
        for (int k = 0; k < cap; k++) {
            check.due("cube " + k + " of " + cap, adding.add(x, part, mask), k);
        }
    }

    private static void full(Adding mine) {
        for (int cap = 4; cap <= 16; cap++) {
            TwoLevelMinimizer x = new TwoLevelMinimizer(2, 1, cap);
            fill(mine, x, cap, 5, 1);
            check.due("cap = " + cap + ", an equal cube more", mine.add(x, 5, 1), -4);
            check.due("cap = " + cap + ", another cube more", mine.add(x, 10, 1), -4);
        }
    }

    private static void firstThatApplies(Adding mine) {
        for (int which = 0; which < 16; which++) {
            boolean working = (which & 1) != 0;
            boolean wrongPart = (which & 2) != 0;
            boolean wrongMask = (which & 4) != 0;
            boolean noRoom = (which & 8) != 0;
            int due = working ? -1 : wrongPart ? -2 : wrongMask ? -3 : noRoom ? -4 : 3;
            int[] parts = wrongPart ? new int[] {LEAST, -1, 0, 4, 16, GREATEST} : new int[] {5, 10, 15};
            int[] masks = wrongMask ? new int[] {LEAST, -1, 0, 4, GREATEST} : new int[] {1, 2, 3};
            for (int part : parts) {
                for (int mask : masks) {
                    TwoLevelMinimizer x = new TwoLevelMinimizer(2, 2, 4);
                    fill(mine, x, noRoom ? 4 : 3, 6, 1);
                    if (working) {
                        x.begin();
                    }
                    String state = (working ? "WORKING" : "FEEDING") + (noRoom ? ", full" : "");
                    check.due(state + ": (" + part + ", " + mask + ")", mine.add(x, part, mask), due);
                }
            }
        }
    }

    // Three cubes in each store, all different, and a function that each of them can be seen in.
    private static TwoLevelMinimizer threeOfEach() {
        TwoLevelMinimizer x = new TwoLevelMinimizer(3, 2, 4);
        Cubes.feed(x, "000/1 10-/2 -11/1", "100/1 010/2 111/3");
        return x;
    }

    private static void stillThreeOfEach(String after, TwoLevelMinimizer x) {
        String function = Seen.function(threeOfEach());
        check.due("F after " + after, Seen.function(x), function);
        check.due("phase() after " + after, x.phase(), 0);
        check.due("cubeCount() after " + after, x.cubeCount(), 0);
        check.due("the next on-cube after " + after, x.addOn(Cubes.part("11-"), 2), 3);
        check.due("the next dc-cube after " + after, x.addDc(Cubes.part("111"), 3), 3);
        x.begin();
        check.due("the on-cubes after " + after, Cubes.cover(x, 3), "000/1 10-/2 -11/1 11-/2");
    }

    private static void unchangedByPhase(Adding mine) {
        TwoLevelMinimizer x = threeOfEach();
        x.begin();
        String begun = Seen.all(x);
        mine.add(x, Cubes.part("---"), 3);
        mine.add(x, Cubes.part("001"), 1);
        mine.add(x, 0, 0);
        check.due("after adding while WORKING", Seen.all(x), begun);
        check.due("begin() after adding while WORKING", x.begin(), 3);
        check.due("and what it copied", Seen.all(x), begun);
        x.expand();
        String expanded = Seen.all(x);
        mine.add(x, Cubes.part("---"), 3);
        check.due("after adding to an expanded cover", Seen.all(x), expanded);
        x.clear();
        check.due("the first cube after clear()", mine.add(x, Cubes.part("---"), 3), 0);
    }

    private static void unchangedByCube(Adding mine) {
        // Cut down to their six low bits, the first ones would be cubes that change F.
        int low = Cubes.part("---");
        int[] parts = {low | 64, low | LEAST, low | (1 << 30), -1, GREATEST, LEAST, 0, 1, 60, 51, 15};
        for (int part : parts) {
            TwoLevelMinimizer x = threeOfEach();
            check.due("inputPart " + part, mine.add(x, part, 3), -2);
            stillThreeOfEach("inputPart " + part, x);
        }
    }

    private static void unchangedByOutputs(Adding mine) {
        int[] masks = {0, 4, 5, 7, -1, LEAST, LEAST + 3, GREATEST, 1 << 30};
        for (int mask : masks) {
            TwoLevelMinimizer x = threeOfEach();
            check.due("outputMask " + mask, mine.add(x, Cubes.part("---"), mask), -3);
            stillThreeOfEach("outputMask " + mask, x);
        }
    }

    private static void unchangedByFull(Adding mine) {
        TwoLevelMinimizer x = threeOfEach();
        x.addOn(Cubes.part("11-"), 2);
        x.addDc(Cubes.part("011"), 2);
        String before = Seen.all(x);
        for (int k = 0; k < 20; k++) {
            check.due("a cube more", mine.add(x, Cubes.part("---"), 3), -4);
        }
        check.due("after adding to full stores", Seen.all(x), before);
        check.due("begin() after it", x.begin(), 4);
        check.due("the on-cubes after it", Cubes.cover(x, 3), "000/1 10-/2 -11/1 11-/2");
    }

    private static void duplicates(Adding mine) {
        for (int cap = 4; cap <= 16; cap++) {
            TwoLevelMinimizer x = new TwoLevelMinimizer(2, 2, cap);
            fill(mine, x, cap, 9, 3);
            x.clear();
            for (int k = 0; k < cap; k++) {
                check.due("by turns, cube " + k, mine.add(x, k % 2 == 0 ? 5 : 10, 1), k);
            }
        }
    }

    private static void indexes(Adding mine) {
        for (int[] size : SIZES) {
            TwoLevelMinimizer x = new TwoLevelMinimizer(size[0], size[1], size[2]);
            for (int k = 0; k < size[2]; k++) {
                int part = Cubes.every(size[0], 1 + k % 3);
                int mask = 1 + k % ((1 << size[1]) - 1);
                // A refused call takes no index.
                check.due("a void part before cube " + k, mine.add(x, 0, mask), -2);
                check.due("an empty mask before cube " + k, mine.add(x, part, 0), -3);
                check.due("cube " + k, mine.add(x, part, mask), k);
            }
        }
    }

    private static void coverStays(Adding mine) {
        TwoLevelMinimizer x = new TwoLevelMinimizer(2, 2, 16);
        for (int k = 0; k < 17; k++) {
            mine.add(x, 5 << (k % 2), 3);
            check.due("cubeCount()", x.cubeCount(), 0);
            check.due("literalCount()", x.literalCount(), 0);
            check.due("cubeInputs(" + k + ")", x.cubeInputs(k), -5);
            check.due("cubeOutputs(" + k + ")", x.cubeOutputs(k), -5);
            check.due("the cover's points", Seen.evaluation(x), "0000 0000");
            check.due("phase()", x.phase(), 0);
        }
    }

    private static void otherStoreStays(Adding mine, Adding other) {
        TwoLevelMinimizer x = new TwoLevelMinimizer(2, 1, 6);
        for (int k = 0; k < 6; k++) {
            check.due("to the other store, cube " + k, other.add(x, 9, 1), k);
            check.due("cube " + k, mine.add(x, 6, 1), k);
        }
        TwoLevelMinimizer y = Cubes.fed(1, "00/1", "11/1");
        mine.add(y, Cubes.part("10"), 1);
        // Whichever store the new cube went to, 00 stays ON and 11 stays DC.
        check.due("the other cube of addOn", y.function(0, 0), 1);
        check.due("the other cube of addDc", y.function(3, 0), 2);
        check.due("the next in the other store", other.add(y, 15, 1), 1);
    }

    private static void fullOtherStore(Adding mine, Adding other) {
        for (int cap = 4; cap <= 16; cap++) {
            TwoLevelMinimizer x = new TwoLevelMinimizer(2, 1, cap);
            fill(other, x, cap, 5, 1);
            check.due("the other store is full", other.add(x, 5, 1), -4);
            fill(mine, x, cap, 10, 1);
            check.due("both are full", mine.add(x, 10, 1), -4);
            check.due("the other one still", other.add(x, 10, 1), -4);
        }
    }

    private static void functionFollows(String promise, Adding mine) {
        String value = promise.equals("2") ? "1" : "2";
        TwoLevelMinimizer x = new TwoLevelMinimizer(2, 2, 4);
        check.due("F of no cubes", Seen.function(x), "0000 0000");
        mine.add(x, Cubes.part("00"), 1);
        check.due("F of one cube", Seen.function(x), "1000 0000".replace("1", value));
        mine.add(x, Cubes.part("11"), 2);
        check.due("F of two cubes", Seen.function(x), "1000 0001".replace("1", value));
        mine.add(x, Cubes.part("1-"), 3);
        check.due("F of three cubes", Seen.function(x), "1101 0101".replace("1", value));
        mine.add(x, Cubes.part("--"), 2);
        check.due("F of four cubes", Seen.function(x), "1101 1111".replace("1", value));
    }

    // Promise 4

    private static void beginning() {
        check.sentence("4: is never refused, in any phase", FeedingEdgesTest::beginInAnyPhase);
        check.sentence("4: position k = on-cube k", FeedingEdgesTest::beginKeepsTheOrder);
        check.sentence("4: any earlier cover is discarded", FeedingEdgesTest::beginDiscards);
        check.sentence("4: the phase becomes WORKING", FeedingEdgesTest::beginWorks);
        check.sentence("4: the count may be 0", FeedingEdgesTest::beginWithoutCubes);
        check.sentence("4: the on-cubes and dc-cubes are not changed", FeedingEdgesTest::beginKeepsTheStores);
        check.sentence("4: called again in WORKING, a fresh copy", FeedingEdgesTest::beginAgain);
    }

    private static void beginInAnyPhase() {
        for (int[] size : SIZES) {
            TwoLevelMinimizer x = new TwoLevelMinimizer(size[0], size[1], size[2]);
            check.due("new: begin()", x.begin(), 0);
            check.due("WORKING on nothing: begin()", x.begin(), 0);
            x.clear();
            check.due("cleared: begin()", x.begin(), 0);
            x.clear();
            int part = Cubes.every(size[0], 2);
            for (int k = 0; k < size[2]; k++) {
                x.addOn(part, 1);
                x.addDc(part, 1);
            }
            check.due("both stores full: begin()", x.begin(), size[2]);
            check.due("WORKING: begin()", x.begin(), size[2]);
            x.reduce();
            check.due("WORKING on an emptied cover: begin()", x.begin(), size[2]);
            check.due("and the cover is there again", x.cubeCount(), size[2]);
        }
    }

    private static void beginKeepsTheOrder() {
        for (int cap = 4; cap <= 16; cap++) {
            TwoLevelMinimizer x = new TwoLevelMinimizer(8, 4, cap);
            Sequence numbers = new Sequence(cap);
            int[] parts = new int[cap];
            int[] masks = new int[cap];
            for (int k = 0; k < cap; k++) {
                parts[k] = k % 5 == 4 ? parts[k - 1] : numbers.part(8, 3);
                masks[k] = k % 5 == 4 ? masks[k - 1] : numbers.mask(4);
                x.addOn(parts[k], masks[k]);
            }
            check.due("begin()", x.begin(), cap);
            for (int k = 0; k < cap; k++) {
                check.due("cubeInputs(" + k + ")", x.cubeInputs(k), parts[k]);
                check.due("cubeOutputs(" + k + ")", x.cubeOutputs(k), masks[k]);
            }
            check.due("cubeInputs(cap)", x.cubeInputs(cap), -5);
        }
    }

    private static void beginDiscards() {
        TwoLevelMinimizer x = Cubes.begun(2, "00/1 10/1 01/2", "");
        x.expand();
        x.begin();
        check.due("after expand()", Cubes.cover(x, 2), "00/1 10/1 01/2");
        x.reduce();
        x.irredundant();
        x.begin();
        check.due("after reduce()", Cubes.cover(x, 2), "00/1 10/1 01/2");
        x.improve();
        x.begin();
        check.due("after improve()", Cubes.cover(x, 2), "00/1 10/1 01/2");
        x.clear();
        Cubes.feed(x, "11/2", "");
        check.due("begin() after clear()", x.begin(), 1);
        check.due("after clear()", Cubes.cover(x, 2), "11/2");
        check.due("cubeInputs(1)", x.cubeInputs(1), -5);
        check.due("its points", Seen.evaluation(x), "0000 0001");
    }

    private static void beginWorks() {
        TwoLevelMinimizer x = new TwoLevelMinimizer(1, 1, 4);
        x.begin();
        check.due("on no cubes: phase()", x.phase(), 1);
        check.due("on no cubes: addOn", x.addOn(3, 1), -1);
        x.begin();
        check.due("again: phase()", x.phase(), 1);
        x.clear();
        x.addOn(3, 1);
        x.begin();
        check.due("on a cube: phase()", x.phase(), 1);
        check.due("on a cube: expand()", x.expand(), 1);
    }

    private static void beginWithoutCubes() {
        for (int[] size : SIZES) {
            TwoLevelMinimizer x = new TwoLevelMinimizer(size[0], size[1], size[2]);
            check.due("no cubes: begin()", x.begin(), 0);
            nothingHeld("no cubes:", x);
            everyPoint("no cubes:", x, size[0], size[1]);
            x.clear();
            x.addDc(Cubes.every(size[0], 3), 1);
            check.due("a dc-cube alone: begin()", x.begin(), 0);
            check.due("a dc-cube alone: phase()", x.phase(), 1);
            nothingHeld("a dc-cube alone:", x);
        }
    }

    private static void beginKeepsTheStores() {
        TwoLevelMinimizer x = threeOfEach();
        String function = Seen.function(x);
        for (int round = 0; round < 3; round++) {
            check.due("begin()", x.begin(), 3);
            check.due("F after begin()", Seen.function(x), function);
            check.due("the on-cubes", Cubes.cover(x, 3), "000/1 10-/2 -11/1");
            x.expand();
            check.due("F after expand()", Seen.function(x), function);
        }
    }

    private static void beginAgain() {
        TwoLevelMinimizer x = Cubes.begun(1, "00/1 10/1 01/1 11/1", "");
        for (int round = 0; round < 3; round++) {
            check.due("begin() again", x.begin(), 4);
            check.due("the cover after it", Cubes.cover(x, 2), "00/1 10/1 01/1 11/1");
            check.due("literalCount() after it", x.literalCount(), 8);
            check.due("expand()", x.expand(), 1);
            check.due("the cover after expand()", Cubes.cover(x, 2), "--/1");
        }
        // A cover that went down to nothing comes back as well.
        x = Cubes.begun(1, "00/1 1-/1", "--/1");
        check.due("irredundant()", x.irredundant(), 0);
        check.due("begin() on an empty cover", x.begin(), 2);
        check.due("the cover after that", Cubes.cover(x, 2), "00/1 1-/1");
    }

    // Promise 9

    private static void clearing() {
        check.sentence("9: is never refused", FeedingEdgesTest::clearInAnyPhase);
        check.sentence("9: removes all on-cubes", FeedingEdgesTest::clearRemovesOn);
        check.sentence("9: removes all dc-cubes", FeedingEdgesTest::clearRemovesDc);
        check.sentence("9: removes all cover cubes", FeedingEdgesTest::clearRemovesCover);
        check.sentence("9: the phase becomes FEEDING", FeedingEdgesTest::clearFeeds);
        check.sentence("9: F is OFF, the count 0 and the literals 0", FeedingEdgesTest::clearLeavesNothing);
        check.sentence("9: n, q and cap are kept; new cubes up to cap", FeedingEdgesTest::clearKeepsTheSizes);
    }

    private static TwoLevelMinimizer filled(int[] size) {
        TwoLevelMinimizer x = new TwoLevelMinimizer(size[0], size[1], size[2]);
        for (int k = 0; k < size[2]; k++) {
            x.addOn(Cubes.every(size[0], 1 + k % 3), 1);
            x.addDc(Cubes.every(size[0], 1), (1 << size[1]) - 1);
        }
        return x;
    }

    private static void clearInAnyPhase() {
        for (int[] size : SIZES) {
            String fresh = Seen.all(new TwoLevelMinimizer(size[0], size[1], size[2]));
            TwoLevelMinimizer x = new TwoLevelMinimizer(size[0], size[1], size[2]);
            x.clear();
            check.due("new, cleared", Seen.all(x), fresh);
            x.clear();
            check.due("cleared again", Seen.all(x), fresh);
            x.begin();
            x.clear();
            check.due("begun on nothing, cleared", Seen.all(x), fresh);
            x = filled(size);
            x.clear();
            check.due("FEEDING with full stores, cleared", Seen.all(x), fresh);
            x = filled(size);
            x.begin();
            x.clear();
            check.due("WORKING, cleared", Seen.all(x), fresh);
            x = filled(size);
            x.begin();
            x.improve();
            x.clear();
            check.due("WORKING after improve(), cleared", Seen.all(x), fresh);
        }
    }

    private static void clearRemovesOn() {
        for (int[] size : SIZES) {
            TwoLevelMinimizer x = filled(size);
            x.clear();
            check.due("begin() has nothing to copy", x.begin(), 0);
            x = filled(size);
            x.clear();
            int part = Cubes.every(size[0], 2);
            check.due("the next on-cube is the first", x.addOn(part, 1), 0);
            check.due("begin() copies that one", x.begin(), 1);
            check.due("cubeInputs(0)", x.cubeInputs(0), part);
            check.due("F at minterm 0", x.function(0, 0), 0);
        }
    }

    private static void clearRemovesDc() {
        for (int[] size : SIZES) {
            TwoLevelMinimizer x = filled(size);
            x.clear();
            x.addOn(Cubes.every(size[0], 3), 1);
            check.due("F where a dc-cube was", x.function(0, 0), 1);
            check.due("the next dc-cube is the first", x.addDc(Cubes.every(size[0], 2), 1), 0);
            check.due("F where a dc-cube was", x.function(0, 0), 1);
            check.due("F where the new one is", x.function((1 << size[0]) - 1, 0), 2);
        }
    }

    private static void clearRemovesCover() {
        for (int[] size : SIZES) {
            TwoLevelMinimizer x = filled(size);
            x.begin();
            x.clear();
            nothingHeld("cleared:", x);
            for (int k = 1; k < 17; k++) {
                check.due("cleared: cubeInputs(" + k + ")", x.cubeInputs(k), -5);
            }
            x.begin();
            x.improve();
            nothingHeld("begun again:", x);
        }
    }

    private static void clearFeeds() {
        for (int[] size : SIZES) {
            TwoLevelMinimizer x = filled(size);
            x.clear();
            check.due("FEEDING, cleared: phase()", x.phase(), 0);
            x.begin();
            x.clear();
            check.due("WORKING, cleared: phase()", x.phase(), 0);
            check.due("expand()", x.expand(), -1);
            check.due("irredundant()", x.irredundant(), -1);
            check.due("reduce()", x.reduce(), -1);
            check.due("improve()", x.improve(), -1);
            check.due("addOn", x.addOn(Cubes.every(size[0], 3), 1), 0);
        }
    }

    private static void clearLeavesNothing() {
        for (int[] size : SIZES) {
            TwoLevelMinimizer x = filled(size);
            x.begin();
            x.clear();
            everyPoint("cleared:", x, size[0], size[1]);
            nothingHeld("cleared:", x);
            check.due("cleared: no implicant", x.isImplicant(Cubes.every(size[0], 1), 1), false);
        }
    }

    private static void clearKeepsTheSizes() {
        for (int n = 1; n <= 8; n++) {
            for (int cap = 4; cap <= 16; cap++) {
                int q = 1 + (n + cap) % 4;
                TwoLevelMinimizer x = filled(new int[] {n, q, cap});
                x.clear();
                Sizes.all(check, "FEEDING, cleared:", x, n, q, cap);
                x.clear();
                Sizes.all(check, "WORKING, cleared:", x, n, q, cap);
            }
        }
    }
}
