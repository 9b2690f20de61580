import java.util.ArrayList;
import java.util.List;

/**
 * The document's words, one point at a time and without any saving of work.
 * It shares nothing with the program, so that a slip in one is not hidden by the other.
 */
final class Model {
    private final int n;
    private final int q;
    private final int cap;
    private boolean working;
    private final List<int[]> on = new ArrayList<>();
    private final List<int[]> dc = new ArrayList<>();
    private List<int[]> cover = new ArrayList<>();

    Model(int inputs, int outputs, int capacity) {
        n = Math.max(1, Math.min(8, inputs));
        q = Math.max(1, Math.min(4, outputs));
        cap = Math.max(4, Math.min(16, capacity));
    }

    private static boolean contains(int[] cube, int n, int m, int o) {
        if ((cube[1] & (1 << o)) == 0) {
            return false;
        }
        for (int i = 0; i < n; i++) {
            int bit = 2 * i + ((m >>> i) % 2);
            if ((cube[0] & (1 << bit)) == 0) {
                return false;
            }
        }
        return true;
    }

    private boolean someContains(List<int[]> cubes, int[] except, int m, int o) {
        for (int[] cube : cubes) {
            // Identity, not equality: an equal cube at another position counts as another one.
            if (cube != except && contains(cube, n, m, o)) {
                return true;
            }
        }
        return false;
    }

    private int valueAt(int m, int o) {
        if (someContains(dc, null, m, o)) {
            return 2;
        }
        return someContains(on, null, m, o) ? 1 : 0;
    }

    private boolean validPart(int part) {
        String bits = Integer.toBinaryString(part);
        if (part < 0 || bits.length() > 2 * n) {
            return false;
        }
        for (int i = 0; i < n; i++) {
            if (part / (int) Math.pow(4, i) % 4 == 0) {
                return false;
            }
        }
        return true;
    }

    private boolean validMask(int mask) {
        return 1 <= mask && mask <= (int) Math.pow(2, q) - 1;
    }

    private boolean implicant(int part, int mask) {
        for (int m = 0; m < 1 << n; m++) {
            for (int o = 0; o < q; o++) {
                if (contains(new int[] {part, mask}, n, m, o) && valueAt(m, o) == 0) {
                    return false;
                }
            }
        }
        return true;
    }

    private int add(List<int[]> store, int part, int mask) {
        if (working) {
            return -1;
        }
        if (!validPart(part)) {
            return -2;
        }
        if (!validMask(mask)) {
            return -3;
        }
        if (store.size() == cap) {
            return -4;
        }
        store.add(new int[] {part, mask});
        return store.size() - 1;
    }

    int addOn(int part, int mask) {
        return add(on, part, mask);
    }

    int addDc(int part, int mask) {
        return add(dc, part, mask);
    }

    int begin() {
        cover = copyOf(on);
        working = true;
        return cover.size();
    }

    private static List<int[]> copyOf(List<int[]> cubes) {
        List<int[]> copy = new ArrayList<>();
        for (int[] cube : cubes) {
            copy.add(cube.clone());
        }
        return copy;
    }

    int expand() {
        if (!working) {
            return -1;
        }
        int pos = 0;
        while (pos < cover.size()) {
            int[] c = cover.get(pos);
            for (int i = 0; i < n; i++) {
                int d = c[0] | (3 << (2 * i));
                if (implicant(d, c[1])) {
                    c[0] = d;
                }
            }
            for (int o = 0; o < q; o++) {
                int d = c[1] | (1 << o);
                if (implicant(c[0], d)) {
                    c[1] = d;
                }
            }
            cover.removeIf(e -> e != c && (e[0] | c[0]) == c[0] && (e[1] | c[1]) == c[1]);
            pos = cover.indexOf(c) + 1;
        }
        return cover.size();
    }

    private List<int[]> ownPoints(int pos) {
        List<int[]> points = new ArrayList<>();
        int[] cube = cover.get(pos);
        for (int m = 0; m < 1 << n; m++) {
            for (int o = 0; o < q; o++) {
                if (valueAt(m, o) == 1 && contains(cube, n, m, o) && !someContains(cover, cube, m, o)) {
                    points.add(new int[] {m, o});
                }
            }
        }
        return points;
    }

    int irredundant() {
        if (!working) {
            return -1;
        }
        int pos = 0;
        while (pos < cover.size()) {
            if (ownPoints(pos).isEmpty()) {
                cover.remove(pos);
            } else {
                pos++;
            }
        }
        return cover.size();
    }

    int reduce() {
        if (!working) {
            return -1;
        }
        int pos = 0;
        while (pos < cover.size()) {
            List<int[]> own = ownPoints(pos);
            if (own.isEmpty()) {
                cover.remove(pos);
                continue;
            }
            int[] smaller = new int[2];
            for (int[] point : own) {
                for (int i = 0; i < n; i++) {
                    boolean one = (point[0] & (1 << i)) != 0;
                    smaller[0] |= 1 << (one ? 2 * i + 1 : 2 * i);
                }
                smaller[1] |= 1 << point[1];
            }
            cover.set(pos, smaller);
            pos++;
        }
        return cover.size();
    }

    int improve() {
        if (!working) {
            return -1;
        }
        List<int[]> remembered = copyOf(cover);
        int literals = literalCount();
        reduce();
        expand();
        irredundant();
        boolean lower = cover.size() < remembered.size()
                || (cover.size() == remembered.size() && literalCount() < literals);
        if (!lower) {
            cover = remembered;
        }
        return lower ? 1 : 0;
    }

    void clear() {
        on.clear();
        dc.clear();
        cover.clear();
        working = false;
    }

    int phase() {
        return working ? 1 : 0;
    }

    int cubeCount() {
        return cover.size();
    }

    int cubeInputs(int k) {
        return k < 0 || k >= cover.size() ? -5 : cover.get(k)[0];
    }

    int cubeOutputs(int k) {
        return k < 0 || k >= cover.size() ? -5 : cover.get(k)[1];
    }

    int literalCount() {
        int literals = 0;
        for (int[] cube : cover) {
            for (int i = 0; i < n; i++) {
                literals += Integer.bitCount((cube[0] >>> (2 * i)) & 3) == 1 ? 1 : 0;
            }
        }
        return literals;
    }

    private boolean outside(int m, int o) {
        return m < 0 || m >= 1 << n || o < 0 || o >= q;
    }

    int evaluate(int m, int o) {
        if (outside(m, o)) {
            return -5;
        }
        return someContains(cover, null, m, o) ? 1 : 0;
    }

    int function(int m, int o) {
        return outside(m, o) ? -5 : valueAt(m, o);
    }

    boolean isImplicant(int part, int mask) {
        return validPart(part) && validMask(mask) && implicant(part, mask);
    }
}
