public final class TwoLevelMinimizer {
    public static final int ERR_PHASE = -1;
    public static final int ERR_CUBE = -2;
    public static final int ERR_OUTPUTS = -3;
    public static final int ERR_FULL = -4;
    public static final int ERR_RANGE = -5;
    public static final int OFF = 0;
    public static final int ON = 1;
    public static final int DC = 2;
    public static final int NOT_IMPROVED = 0;
    public static final int IMPROVED = 1;
    public static final int FEEDING = 0;
    public static final int WORKING = 1;

    private static final int MAX_INPUTS = 8;
    private static final int MAX_OUTPUTS = 4;
    private static final int MIN_CUBES = 4;
    private static final int MAX_CUBES = 16;

    private static final int VOID_FIELD = 0;
    private static final int LITERAL_ZERO = 1;
    private static final int LITERAL_ONE = 2;
    private static final int ABSENT = 3;

    // Stands where a position is asked for and no cube is to be left out.
    private static final int NOWHERE = -1;

    private final int inputCount;
    private final int outputCount;
    private final int capacityOfStore;
    private int currentPhase;

    private final int[] onInputs = new int[MAX_CUBES];
    private final int[] onOutputs = new int[MAX_CUBES];
    private int onCount;

    private final int[] dcInputs = new int[MAX_CUBES];
    private final int[] dcOutputs = new int[MAX_CUBES];
    private int dcCount;

    private final int[] coverInputs = new int[MAX_CUBES];
    private final int[] coverOutputs = new int[MAX_CUBES];
    private int coverCount;

    private final int[] savedInputs = new int[MAX_CUBES];
    private final int[] savedOutputs = new int[MAX_CUBES];
    private int savedCount;

    public TwoLevelMinimizer(int inputs, int outputs, int capacity) {
        inputCount = clamp(inputs, 1, MAX_INPUTS);
        outputCount = clamp(outputs, 1, MAX_OUTPUTS);
        capacityOfStore = clamp(capacity, MIN_CUBES, MAX_CUBES);
        currentPhase = FEEDING;
    }

    public int addOn(int inputPart, int outputMask) {
        int place = placeFor(inputPart, outputMask, onCount);
        if (place >= 0) {
            onInputs[place] = inputPart;
            onOutputs[place] = outputMask;
            onCount = place + 1;
        }
        return place;
    }

    public int addDc(int inputPart, int outputMask) {
        int place = placeFor(inputPart, outputMask, dcCount);
        if (place >= 0) {
            dcInputs[place] = inputPart;
            dcOutputs[place] = outputMask;
            dcCount = place + 1;
        }
        return place;
    }

    public int begin() {
        copyFirst(onCount, onInputs, coverInputs);
        copyFirst(onCount, onOutputs, coverOutputs);
        coverCount = onCount;
        currentPhase = WORKING;
        return coverCount;
    }

    public int expand() {
        if (currentPhase == FEEDING) {
            return ERR_PHASE;
        }
        // Each step settles at least one cube, so there is never need for more than MAX_CUBES.
        int pos = 0;
        for (int step = 0; step < MAX_CUBES && pos < coverCount; step++) {
            raiseInputs(pos);
            raiseOutputs(pos);
            pos = dropCubesInside(pos) + 1;
        }
        return coverCount;
    }

    public int irredundant() {
        if (currentPhase == FEEDING) {
            return ERR_PHASE;
        }
        // As in expand, each step settles a cube: it is kept or removed.
        int pos = 0;
        for (int step = 0; step < MAX_CUBES && pos < coverCount; step++) {
            if (hasOwnPoint(pos)) {
                pos++;
            } else {
                removeAt(pos);
            }
        }
        return coverCount;
    }

    public int reduce() {
        if (currentPhase == FEEDING) {
            return ERR_PHASE;
        }
        // As in expand, each step settles a cube: it is shrunk or removed.
        int pos = 0;
        for (int step = 0; step < MAX_CUBES && pos < coverCount; step++) {
            if (shrinkToOwnPoints(pos)) {
                pos++;
            } else {
                removeAt(pos);
            }
        }
        return coverCount;
    }

    public int improve() {
        if (currentPhase == FEEDING) {
            return ERR_PHASE;
        }
        int literalsBefore = literalCount();
        saveCover();
        reduce();
        expand();
        irredundant();
        int literalsAfter = literalCount();
        if (coverCount < savedCount) {
            return IMPROVED;
        }
        if (coverCount == savedCount && literalsAfter < literalsBefore) {
            return IMPROVED;
        }
        restoreCover();
        return NOT_IMPROVED;
    }

    public void clear() {
        onCount = 0;
        dcCount = 0;
        coverCount = 0;
        currentPhase = FEEDING;
    }

    public int phase() {
        return currentPhase;
    }

    public int cubeCount() {
        return coverCount;
    }

    public int cubeInputs(int k) {
        if (k < 0 || k >= coverCount) {
            return ERR_RANGE;
        }
        return coverInputs[k];
    }

    public int cubeOutputs(int k) {
        if (k < 0 || k >= coverCount) {
            return ERR_RANGE;
        }
        return coverOutputs[k];
    }

    public int literalCount() {
        int total = 0;
        for (int k = 0; k < coverCount; k++) {
            total += literalsOf(coverInputs[k]);
        }
        return total;
    }

    public int evaluate(int m, int o) {
        if (!isPoint(m, o)) {
            return ERR_RANGE;
        }
        int minterm = partOfMinterm(m);
        int covered = outputsAt(minterm, coverInputs, coverOutputs, coverCount, NOWHERE);
        return (covered >> o) & 1;
    }

    public int function(int m, int o) {
        if (!isPoint(m, o)) {
            return ERR_RANGE;
        }
        int minterm = partOfMinterm(m);
        int dc = outputsAt(minterm, dcInputs, dcOutputs, dcCount, NOWHERE);
        if (((dc >> o) & 1) == 1) {
            return DC;
        }
        int on = outputsAt(minterm, onInputs, onOutputs, onCount, NOWHERE);
        if (((on >> o) & 1) == 1) {
            return ON;
        }
        return OFF;
    }

    public boolean isImplicant(int inputPart, int outputMask) {
        return isInputPart(inputPart) && isOutputMask(outputMask) && avoidsOff(inputPart, outputMask);
    }

    private static int clamp(int value, int least, int greatest) {
        if (value < least) {
            return least;
        }
        if (value > greatest) {
            return greatest;
        }
        return value;
    }

    private boolean isInputPart(int part) {
        if (part < 0 || (part >> (2 * inputCount)) != 0) {
            return false;
        }
        for (int i = 0; i < inputCount; i++) {
            if (((part >> (2 * i)) & ABSENT) == VOID_FIELD) {
                return false;
            }
        }
        return true;
    }

    private boolean isOutputMask(int mask) {
        return mask >= 1 && mask < (1 << outputCount);
    }

    private boolean isPoint(int m, int o) {
        return m >= 0 && m < (1 << inputCount) && o >= 0 && o < outputCount;
    }

    // The two stores refuse alike; the answer is the index of the new cube or an error code.
    private int placeFor(int inputPart, int outputMask, int held) {
        if (currentPhase == WORKING) {
            return ERR_PHASE;
        }
        if (!isInputPart(inputPart)) {
            return ERR_CUBE;
        }
        if (!isOutputMask(outputMask)) {
            return ERR_OUTPUTS;
        }
        if (held >= capacityOfStore) {
            return ERR_FULL;
        }
        return held;
    }

    // In this form a cube holds the minterm iff the cube's input part has all of its bits.
    private int partOfMinterm(int m) {
        int part = 0;
        for (int i = 0; i < inputCount; i++) {
            int value = (m >> i) & 1;
            part |= 1 << (2 * i + value);
        }
        return part;
    }

    // All outputs of one minterm are asked at once: bit o tells whether a listed cube holds (m,o).
    private static int outputsAt(int minterm, int[] inputs, int[] outputs, int count, int leftOut) {
        int found = 0;
        for (int k = 0; k < count; k++) {
            if (k != leftOut && (inputs[k] & minterm) == minterm) {
                found |= outputs[k];
            }
        }
        return found;
    }

    private boolean avoidsOff(int part, int mask) {
        int minterms = 1 << inputCount;
        for (int m = 0; m < minterms; m++) {
            int minterm = partOfMinterm(m);
            if ((part & minterm) == minterm) {
                int on = outputsAt(minterm, onInputs, onOutputs, onCount, NOWHERE);
                int dc = outputsAt(minterm, dcInputs, dcOutputs, dcCount, NOWHERE);
                if ((mask & ~(on | dc)) != 0) {
                    return false;
                }
            }
        }
        return true;
    }

    // The outputs at which the minterm is ON and is held by the cube at pos and by no other one.
    private int ownOutputs(int pos, int minterm) {
        if ((coverInputs[pos] & minterm) != minterm) {
            return 0;
        }
        int on = outputsAt(minterm, onInputs, onOutputs, onCount, NOWHERE);
        int dc = outputsAt(minterm, dcInputs, dcOutputs, dcCount, NOWHERE);
        int others = outputsAt(minterm, coverInputs, coverOutputs, coverCount, pos);
        return coverOutputs[pos] & on & ~dc & ~others;
    }

    private boolean hasOwnPoint(int pos) {
        int minterms = 1 << inputCount;
        for (int m = 0; m < minterms; m++) {
            int minterm = partOfMinterm(m);
            if (ownOutputs(pos, minterm) != 0) {
                return true;
            }
        }
        return false;
    }

    // Answers false, and leaves the cube as it is, if the cube has no point of its own.
    private boolean shrinkToOwnPoints(int pos) {
        int part = 0;
        int mask = 0;
        int minterms = 1 << inputCount;
        for (int m = 0; m < minterms; m++) {
            int minterm = partOfMinterm(m);
            int own = ownOutputs(pos, minterm);
            if (own != 0) {
                part |= minterm;
                mask |= own;
            }
        }
        if (mask == 0) {
            return false;
        }
        coverInputs[pos] = part;
        coverOutputs[pos] = mask;
        return true;
    }

    private void raiseInputs(int pos) {
        for (int i = 0; i < inputCount; i++) {
            int raised = coverInputs[pos] | (ABSENT << (2 * i));
            if (raised != coverInputs[pos] && avoidsOff(raised, coverOutputs[pos])) {
                coverInputs[pos] = raised;
            }
        }
    }

    private void raiseOutputs(int pos) {
        for (int o = 0; o < outputCount; o++) {
            int raised = coverOutputs[pos] | (1 << o);
            if (raised != coverOutputs[pos] && avoidsOff(coverInputs[pos], raised)) {
                coverOutputs[pos] = raised;
            }
        }
    }

    // The answer is where the keeper stands afterwards: cubes before it may go too.
    private int dropCubesInside(int keeper) {
        int part = coverInputs[keeper];
        int mask = coverOutputs[keeper];
        int kept = 0;
        int keeperNow = keeper;
        for (int k = 0; k < coverCount; k++) {
            boolean inside = (coverInputs[k] & ~part) == 0 && (coverOutputs[k] & ~mask) == 0;
            if (k == keeper) {
                keeperNow = kept;
            }
            if (k == keeper || !inside) {
                coverInputs[kept] = coverInputs[k];
                coverOutputs[kept] = coverOutputs[k];
                kept++;
            }
        }
        coverCount = kept;
        return keeperNow;
    }

    private void removeAt(int pos) {
        for (int k = pos + 1; k < coverCount; k++) {
            coverInputs[k - 1] = coverInputs[k];
            coverOutputs[k - 1] = coverOutputs[k];
        }
        coverCount--;
    }

    private int literalsOf(int part) {
        int literals = 0;
        for (int i = 0; i < inputCount; i++) {
            int field = (part >> (2 * i)) & ABSENT;
            if (field == LITERAL_ZERO || field == LITERAL_ONE) {
                literals++;
            }
        }
        return literals;
    }

    private void saveCover() {
        copyFirst(coverCount, coverInputs, savedInputs);
        copyFirst(coverCount, coverOutputs, savedOutputs);
        savedCount = coverCount;
    }

    private void restoreCover() {
        copyFirst(savedCount, savedInputs, coverInputs);
        copyFirst(savedCount, savedOutputs, coverOutputs);
        coverCount = savedCount;
    }

    private static void copyFirst(int count, int[] from, int[] to) {
        for (int k = 0; k < count; k++) {
            to[k] = from[k];
        }
    }
}
