/** A fixed sequence of numbers, so that every run of a test makes the same calls. */
final class Sequence {
    private long state;

    Sequence(long start) {
        state = start;
    }

    int below(int bound) {
        state = state * 6364136223846793005L + 1442695040888963407L;
        return (int) ((state >>> 33) % bound);
    }

    /** A valid input part; of ten fields about as many as dashes says are 11. */
    int part(int inputs, int dashes) {
        int part = 0;
        for (int i = 0; i < inputs; i++) {
            int field = below(10) < dashes ? 3 : 1 + below(2);
            part |= field << (2 * i);
        }
        return part;
    }

    int mask(int outputs) {
        return 1 + below((1 << outputs) - 1);
    }
}
