/** Cubes as text, such as "1-0/3": a character for each input from x0 on, then the output mask. */
final class Cubes {
    private Cubes() {
    }

    static int part(String inputs) {
        int part = 0;
        for (int i = 0; i < inputs.length(); i++) {
            part |= ".01-".indexOf(inputs.charAt(i)) << (2 * i);
        }
        return part;
    }

    /** The input part that has the same field at every input. */
    static int every(int inputs, int field) {
        int part = 0;
        for (int i = 0; i < inputs; i++) {
            part |= field << (2 * i);
        }
        return part;
    }

    private static int mask(String cube) {
        return Integer.parseInt(cube.substring(cube.indexOf('/') + 1));
    }

    private static String inputs(String cube) {
        return cube.substring(0, cube.indexOf('/'));
    }

    private static String[] each(String cubes) {
        return cubes.isEmpty() ? new String[0] : cubes.split(" ");
    }

    /** Adds the named cubes, each list parted by blanks. */
    static void feed(TwoLevelMinimizer x, String on, String dc) {
        for (String cube : each(on)) {
            x.addOn(part(inputs(cube)), mask(cube));
        }
        for (String cube : each(dc)) {
            x.addDc(part(inputs(cube)), mask(cube));
        }
    }

    /** A minimizer that holds the named cubes, still FEEDING; at least one of them tells how many inputs there are. */
    static TwoLevelMinimizer fed(int outputs, String on, String dc) {
        int inputs = (on.isEmpty() ? dc : on).indexOf('/');
        TwoLevelMinimizer x = new TwoLevelMinimizer(inputs, outputs, 16);
        feed(x, on, dc);
        return x;
    }

    static TwoLevelMinimizer begun(int outputs, String on, String dc) {
        TwoLevelMinimizer x = fed(outputs, on, dc);
        x.begin();
        return x;
    }

    static String cover(TwoLevelMinimizer x, int inputs) {
        StringBuilder text = new StringBuilder();
        for (int k = 0; k < x.cubeCount(); k++) {
            int part = x.cubeInputs(k);
            for (int i = 0; i < inputs; i++) {
                text.append(".01-".charAt((part >> (2 * i)) & 3));
            }
            text.append('/').append(x.cubeOutputs(k)).append(' ');
        }
        return text.toString().trim();
    }
}
