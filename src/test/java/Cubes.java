/** Cubes as text, such as "1-0/3": a character for each input from x0 on, then the output mask. */
final class Cubes {
    private Cubes() {
    }

    static int part(String inputs) {
        int part = 0;
        for (int i = 0; i < inputs.length(); i++) {
            part |= ".01-".indexOf(inputs.charAt(i)) << (2 * i);
        }
        return part;
    }

    private static int mask(String cube) {
        return Integer.parseInt(cube.substring(cube.indexOf('/') + 1));
    }

    private static String inputs(String cube) {
        return cube.substring(0, cube.indexOf('/'));
    }

    /** A minimizer that holds the named cubes, each list parted by blanks, still FEEDING. */
    static TwoLevelMinimizer fed(int outputs, String on, String dc) {
        int inputs = on.indexOf('/');
        TwoLevelMinimizer x = new TwoLevelMinimizer(inputs, outputs, 16);
        for (String cube : on.split(" ")) {
            x.addOn(part(inputs(cube)), mask(cube));
        }
        if (!dc.isEmpty()) {
            for (String cube : dc.split(" ")) {
                x.addDc(part(inputs(cube)), mask(cube));
            }
        }
        return x;
    }

    static TwoLevelMinimizer begun(int outputs, String on, String dc) {
        TwoLevelMinimizer x = fed(outputs, on, dc);
        x.begin();
        return x;
    }

    static String cover(TwoLevelMinimizer x, int inputs) {
        StringBuilder text = new StringBuilder();
        for (int k = 0; k < x.cubeCount(); k++) {
            int part = x.cubeInputs(k);
            for (int i = 0; i < inputs; i++) {
                text.append(".01-".charAt((part >> (2 * i)) & 3));
            }
            text.append('/').append(x.cubeOutputs(k)).append(' ');
        }
        return text.toString().trim();
    }
}
