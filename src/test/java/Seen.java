/** What can be seen of a minimizer from outside, as text, so that "nothing changes" can be tested. */
final class Seen {
    // One past the most that the document allows: a program that never refuses must not keep a test from ending.
    private static final int MINTERMS = 257;
    private static final int OUTPUTS = 5;
    private static final int CUBES = 17;

    private Seen() {
    }

    static String cover(TwoLevelMinimizer x) {
        StringBuilder text = new StringBuilder();
        for (int k = 0; k < CUBES && x.cubeInputs(k) != TwoLevelMinimizer.ERR_RANGE; k++) {
            text.append(x.cubeInputs(k)).append('/').append(x.cubeOutputs(k)).append(' ');
        }
        return text.toString().trim();
    }

    static String function(TwoLevelMinimizer x) {
        StringBuilder text = new StringBuilder();
        for (int o = 0; o < OUTPUTS && x.function(0, o) >= 0; o++) {
            for (int m = 0; m < MINTERMS && x.function(m, o) >= 0; m++) {
                text.append(x.function(m, o));
            }
            text.append(' ');
        }
        return text.toString().trim();
    }

    static String evaluation(TwoLevelMinimizer x) {
        StringBuilder text = new StringBuilder();
        for (int o = 0; o < OUTPUTS && x.evaluate(0, o) >= 0; o++) {
            for (int m = 0; m < MINTERMS && x.evaluate(m, o) >= 0; m++) {
                text.append(x.evaluate(m, o));
            }
            text.append(' ');
        }
        return text.toString().trim();
    }

    static String all(TwoLevelMinimizer x) {
        return "phase " + x.phase() + " count " + x.cubeCount() + " literals " + x.literalCount()
                + " cover [" + cover(x) + "] function [" + function(x) + "] evaluation [" + evaluation(x) + "]";
    }
}
