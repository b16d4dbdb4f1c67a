import java.util.ArrayList;
import java.util.List;

/**
 * Machines where each couple of a state of machine 0 and one of machine 1 is reached by one term alone. The terms go
 * through the couples one by one: three steps in machine 0, then a turn that starts it anew and goes on in machine 1.
 * A step or a turn has either one child, which makes the term larger by 1, or twice the same child.
 */
final class Walk {
    static final int KINDS = 64;
    static final int PLACES = 16;

    private final int kind;

    /** Bits 0 to 2 tell the steps that have two children, bits 3 to 5 the turns that do. */
    Walk(int kind) {
        this.kind = kind;
    }

    /** Where all terms of the walk begin. */
    private int leaf() {
        return kind % 3;
    }

    private int stepSymbol(int state) {
        return (kind >> state & 1) == 1 ? 6 : 3;
    }

    private int turnSymbol(int state) {
        return (kind >> 3 + state & 1) == 1 ? 5 : 4;
    }

    /** A new object whose machines both accept the term at this place of the walk alone: at most 27 calls. */
    TreeMachines upTo(int place) {
        TreeMachines x = new TreeMachines();
        x.rule(0, leaf(), 0, 0, 0);
        x.rule(1, leaf(), 0, 0, 0);
        for (int i = 0; i < 3; i++) {
            x.rule(0, stepSymbol(i), i, i, i + 1);
            x.rule(0, turnSymbol(i), 3, 3, 0);
            x.rule(1, turnSymbol(i), i, i, i + 1);
            for (int j = 0; j < 4; j++) {
                x.rule(1, stepSymbol(i), j, j, j);
            }
        }
        x.goal(0, place & 3, true);
        x.goal(1, place >> 2, true);
        return x;
    }

    /**
     * A new object where machine 1 accepts all terms that machine 0 accepts, but for the one at this place of the
     * walk, which is one of the first twelve: at most 71 calls. Its state 3 is for what leaves the walk.
     */
    TreeMachines lacking(int place) {
        TreeMachines x = new TreeMachines();
        x.rule(0, leaf(), 0, 0, 0);
        for (int i = 0; i < 3; i++) {
            x.rule(0, stepSymbol(i), i, i, i + 1);
            x.rule(0, turnSymbol(i), 3, 3, 0);
        }
        for (int[] r : Given.allRules()) {
            if (r[3] == nextState(r[0], r[1], r[2])) {
                Given.addRule(x, 1, r);
            }
        }
        x.goal(0, place & 3, true);
        for (int state = 0; state < 4; state++) {
            x.goal(1, state, state != place >> 2);
        }
        return x;
    }

    /** Where machine 1 goes on, if it has a rule for everything. */
    private int nextState(int symbol, int left, int right) {
        if (symbol == leaf()) {
            return 0;
        }
        boolean same = Given.childrenOf(symbol) == 1 || Given.childrenOf(symbol) == 2 && left == right;
        if (!same || left == 3) {
            return 3;
        }
        if (symbol == 3 || symbol == 6) {
            return left;
        }
        return symbol == turnSymbol(left) ? left + 1 : 3;
    }

    private int symbolBefore(int place) {
        return (place & 3) == 0 ? turnSymbol((place >> 2) - 1) : stepSymbol((place & 3) - 1);
    }

    int sizeAt(int place) {
        int size = 1;
        for (int i = 1; i <= place; i++) {
            size = Given.childrenOf(symbolBefore(i)) == 2 ? 2 * size + 1 : size + 1;
        }
        return size;
    }

    String writingAt(int place) {
        String writing = "" + leaf();
        for (int i = 1; i <= place; i++) {
            int symbol = symbolBefore(i);
            writing = symbol + writing + (Given.childrenOf(symbol) == 2 ? writing : "");
        }
        return writing;
    }

    /** A kind and a place where both machines accept a term of this size alone. */
    static int[] ofSize(int size) {
        List<int[]> found = new ArrayList<>();
        for (int kind = 0; kind < KINDS; kind++) {
            for (int place = 0; place < PLACES; place++) {
                if (new Walk(kind).sizeAt(place) == size) {
                    found.add(new int[] {kind, place});
                }
            }
        }
        if (found.isEmpty()) {
            throw new IllegalStateException("no walk comes to size " + size);
        }
        return found.get(0);
    }

    /** A new object whose machines both accept one term of this size alone: at most 27 calls. */
    static TreeMachines objectOfSize(int size) {
        int[] found = ofSize(size);
        return new Walk(found[0]).upTo(found[1]);
    }

    static String writingOfSize(int size) {
        int[] found = ofSize(size);
        return new Walk(found[0]).writingAt(found[1]);
    }
}
