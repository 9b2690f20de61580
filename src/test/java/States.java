import java.util.ArrayList;
import java.util.List;

/** Minimizers in the states at the edges of a phase; each call makes new ones, in the same order. */
final class States {
    private States() {
    }

    private static TwoLevelMinimizer full() {
        TwoLevelMinimizer x = new TwoLevelMinimizer(2, 1, 4);
        Cubes.feed(x, "00/1 0-/1 00/1 1-/1", "11/1 11/1 10/1 -1/1");
        return x;
    }

    /** FEEDING: new, with one store, with both, with full ones, and after clear(). */
    static List<TwoLevelMinimizer> feeding() {
        List<TwoLevelMinimizer> states = new ArrayList<>();
        states.add(new TwoLevelMinimizer(1, 1, 4));
        states.add(new TwoLevelMinimizer(8, 4, 16));
        states.add(Cubes.fed(2, "00/1 0-/1 --/1", ""));
        states.add(Cubes.fed(2, "", "11/2 0-/3"));
        states.add(Cubes.fed(2, "00/1 0-/1 10/1", "11/2"));
        states.add(full());
        TwoLevelMinimizer cleared = full();
        cleared.begin();
        cleared.clear();
        states.add(cleared);
        TwoLevelMinimizer fedAgain = full();
        fedAgain.begin();
        fedAgain.improve();
        fedAgain.clear();
        Cubes.feed(fedAgain, "00/1 10/1", "01/1");
        states.add(fedAgain);
        return states;
    }

    /** WORKING on an empty cover: no on-cubes, dc-cubes alone, or on-cubes that the passes removed. */
    static List<TwoLevelMinimizer> emptyCovers() {
        List<TwoLevelMinimizer> states = new ArrayList<>();
        states.add(new TwoLevelMinimizer(1, 1, 4));
        states.add(new TwoLevelMinimizer(8, 4, 16));
        states.add(Cubes.fed(2, "", "11/2 0-/3"));
        states.add(Cubes.fed(1, "", "-/1"));
        TwoLevelMinimizer cleared = full();
        cleared.begin();
        cleared.clear();
        states.add(cleared);
        for (TwoLevelMinimizer state : states) {
            state.begin();
        }
        TwoLevelMinimizer cutDown = Cubes.begun(2, "00/1 1-/3 00/1", "--/3");
        cutDown.irredundant();
        states.add(cutDown);
        TwoLevelMinimizer reduced = Cubes.begun(4, "--------/15", "--------/15");
        reduced.reduce();
        states.add(reduced);
        TwoLevelMinimizer improved = Cubes.begun(1, "0/1 1/1", "-/1");
        improved.improve();
        states.add(improved);
        return states;
    }
}
