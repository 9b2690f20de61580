/** What can be seen of a minimizer from outside, as text, so that "nothing changes" can be tested. */
final class Seen {
    private Seen() {
    }

    static String cover(TwoLevelMinimizer x) {
        StringBuilder text = new StringBuilder();
        for (int k = 0; k < x.cubeCount(); k++) {
            text.append(x.cubeInputs(k)).append('/').append(x.cubeOutputs(k)).append(' ');
        }
        return text.toString().trim();
    }

    static String function(TwoLevelMinimizer x) {
        StringBuilder text = new StringBuilder();
        for (int o = 0; x.function(0, o) >= 0; o++) {
            for (int m = 0; x.function(m, o) >= 0; m++) {
                text.append(x.function(m, o));
            }
            text.append(' ');
        }
        return text.toString().trim();
    }

    static String evaluation(TwoLevelMinimizer x) {
        StringBuilder text = new StringBuilder();
        for (int o = 0; x.evaluate(0, o) >= 0; o++) {
            for (int m = 0; x.evaluate(m, o) >= 0; m++) {
                text.append(x.evaluate(m, o));
            }
            text.append(' ');
        }
        return text.toString().trim();
    }

    static String all(TwoLevelMinimizer x) {
        return "phase " + x.phase() + " count " + x.cubeCount() + " literals " + x.literalCount()
                + " cover [" + cover(x) + "] function [" + function(x) + "] evaluation [" + evaluation(x) + "]";
    }
}
