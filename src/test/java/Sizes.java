/** The number of inputs, of outputs and of cubes in a store, as far as the calls show them. */
final class Sizes {
    private Sizes() {
    }

    /** The sizes of the points alone, which every state shows. */
    static void points(Check check, String when, TwoLevelMinimizer x, int n, int q) {
        int last = (1 << n) - 1;
        check.due(when + " function(2^n-1, q-1) has a point", x.function(last, q - 1) >= 0, true);
        check.due(when + " function(2^n, 0)", x.function(last + 1, 0), -5);
        check.due(when + " function(0, q)", x.function(0, q), -5);
        check.due(when + " evaluate(2^n-1, q-1) has a point", x.evaluate(last, q - 1) >= 0, true);
        check.due(when + " evaluate(2^n, 0)", x.evaluate(last + 1, 0), -5);
        check.due(when + " evaluate(0, q)", x.evaluate(0, q), -5);
    }

    /** All sizes of a minimizer whose stores are empty. It fills them, and begins. */
    static void all(Check check, String when, TwoLevelMinimizer x, int n, int q, int cap) {
        int part = Cubes.every(n, 3);
        int mask = (1 << q) - 1;
        points(check, when, x, n, q);
        check.due(when + " addOn of one input more", x.addOn(Cubes.every(n + 1, 3), 1), -2);
        check.due(when + " addDc of one input more", x.addDc(Cubes.every(n + 1, 3), 1), -2);
        check.due(when + " addOn of one output more", x.addOn(part, mask + 1), -3);
        check.due(when + " addDc of one output more", x.addDc(part, mask + 1), -3);
        for (int k = 0; k < cap; k++) {
            check.due(when + " addOn " + k, x.addOn(part, mask), k);
            check.due(when + " addDc " + k, x.addDc(part, mask), k);
        }
        check.due(when + " addOn past cap", x.addOn(part, mask), -4);
        check.due(when + " addDc past cap", x.addDc(part, mask), -4);
        check.due(when + " isImplicant of all", x.isImplicant(part, mask), true);
        check.due(when + " isImplicant of one input more", x.isImplicant(Cubes.every(n + 1, 3), mask), false);
        check.due(when + " isImplicant of one output more", x.isImplicant(part, mask + 1), false);
        check.due(when + " begin()", x.begin(), cap);
    }
}
