/** Each sentence of promises 7 to 12 that names a bound or a special case has a test of its own. */
public final class NodeSentenceTests {
    public static void main(String[] args) {
        nodeTellsItsNumber();
        nodeOfWrongSymbol();
        nodeOfWrongChild();
        nodeOthersAreNotLookedAt();
        nodeWhenThereAre200();
        nodeFirstThatHolds();
        nodesCounts();
        partOfANode();
        partThatItHasNot();
        partOfNoNode();
        partOfSomethingElse();
        reachedSum();
        reachedNone();
        reachedFollowsTheRules();
        reachedOfWrongMachine();
        reachedOfNoNode();
        placeOfNoNode();
        placeOfTheLastNode();
        sizeAtMost1000();
        sizeDoesNotWrapAround();
        sizeOfNoNode();
        Check.end();
    }

    private static void nodeTellsItsNumber() {
        Check.sentence("7", "A new node: its number");
        TreeMachines x = new TreeMachines();
        for (int n = 0; n < 200; n++) {
            int symbol = n == 0 ? 2 : n % 8;
            Check.due("node " + n, x.node(symbol, n - 1, n / 2), n);
        }
        TreeMachines same = new TreeMachines();
        Check.due("a leaf", same.node(0, 0, 0), 0);
        Check.due("the same leaf is a new node", same.node(0, 0, 0), 1);
        Check.due("a term", same.node(5, 0, 0), 2);
        Check.due("the same term is a new node", same.node(5, 0, 0), 3);
    }

    private static void nodeOfWrongSymbol() {
        Check.sentence("7", "-1 symbol not 0 .. 7");
        TreeMachines x = new TreeMachines();
        x.node(1, 0, 0);
        for (int wrong : Given.outside(8)) {
            Check.due("node(" + wrong + ", 0, 0)", x.node(wrong, 0, 0), -1);
        }
        dueNextLeaf(x, 1);
    }

    /** Nothing was made by the calls before. */
    private static void dueNextLeaf(TreeMachines x, int n) {
        Check.due("nodes()", x.nodes(), n);
        Check.due("part(" + n + ", 0)", x.part(n, 0), -2);
        Check.due("the next node", x.node(0, 0, 0), n);
    }

    private static void nodeOfWrongChild() {
        Check.sentence("7", "-2 a child that the symbol has is no node");
        TreeMachines x = new TreeMachines();
        for (int symbol = 3; symbol < 8; symbol++) {
            Check.due("node(" + symbol + ", 0, 0) where there is no node", x.node(symbol, 0, 0), -2);
        }
        x.node(1, 0, 0);
        x.node(1, 0, 0);
        for (int wrong : Given.outside(2)) {
            for (int symbol = 3; symbol < 8; symbol++) {
                Check.due("node(" + symbol + ", " + wrong + ", 1)", x.node(symbol, wrong, 1), -2);
            }
            for (int symbol = 5; symbol < 8; symbol++) {
                Check.due("node(" + symbol + ", 1, " + wrong + ")", x.node(symbol, 1, wrong), -2);
                Check.due("node(" + symbol + ", " + wrong + ", " + wrong + ")", x.node(symbol, wrong, wrong), -2);
            }
        }
        dueNextLeaf(x, 2);
        Check.due("what was no node is one now", x.node(5, 2, 1), 3);
    }

    private static void nodeOthersAreNotLookedAt() {
        Check.sentence("7", "(others are not looked at)");
        TreeMachines x = new TreeMachines();
        int due = 0;
        for (int wrong : Given.outside(2)) {
            for (int symbol = 0; symbol < 3; symbol++) {
                Check.due("node(" + symbol + ", " + wrong + ", " + wrong + ")", x.node(symbol, wrong, wrong), due);
                Check.due("its left child", x.part(due, 1), -1);
                Check.due("its right child", x.part(due, 2), -1);
                due++;
            }
            for (int symbol = 3; symbol < 5; symbol++) {
                Check.due("node(" + symbol + ", 0, " + wrong + ")", x.node(symbol, 0, wrong), due);
                Check.due("its left child", x.part(due, 1), 0);
                Check.due("its right child", x.part(due, 2), -1);
                due++;
            }
        }
    }

    private static void nodeWhenThereAre200() {
        Check.sentence("7", "-3 there are 200");
        TreeMachines x = new TreeMachines();
        Given.leaves(x, 199);
        Check.due("the 200th", x.node(7, 198, 0), 199);
        for (int symbol = 0; symbol < 8; symbol++) {
            Check.due("the 201st, symbol " + symbol, x.node(symbol, 199, 199), -3);
            Check.due("nodes()", x.nodes(), 200);
        }
        Check.due("the 200th is as it was", Given.writing(x, 199), "700");
        Check.due("the 201st is no node", x.part(200, 0), -2);
    }

    private static void nodeFirstThatHolds() {
        Check.sentence("7", "Else, first that holds");
        TreeMachines few = new TreeMachines();
        Check.due("symbol and children wrong", few.node(8, -1, -1), -1);
        Check.due("symbol and children wrong", few.node(-1, 0, 0), -1);
        TreeMachines x = new TreeMachines();
        Given.leaves(x, 200);
        Check.due("symbol wrong, and 200", x.node(8, 0, 0), -1);
        Check.due("symbol and children wrong, and 200", x.node(-1, 200, -1), -1);
        Check.due("child wrong, and 200", x.node(3, 200, 0), -2);
        Check.due("left wrong, and 200", x.node(5, -1, 0), -2);
        Check.due("right wrong, and 200", x.node(6, 0, 200), -2);
        Check.due("a child that is not looked at, and 200", x.node(4, 199, 200), -3);
        Check.due("children that are not looked at, and 200", x.node(2, 200, 200), -3);
    }

    private static void nodesCounts() {
        Check.sentence("8", "How many nodes there are");
        TreeMachines x = new TreeMachines();
        Check.due("nodes() of a new object", x.nodes(), 0);
        for (int n = 1; n <= 160; n++) {
            x.node(1, 0, 0);
            Check.due("nodes()", x.nodes(), n);
        }
        x.node(9, 0, 0);
        x.node(3, 160, 0);
        Check.due("nodes() after refused ones", x.nodes(), 160);
        Given.acceptOnly(x, 0, "5500500");
        x.witness(4);
        Check.due("nodes() after a witness of size 7", x.nodes(), 167);
        x.witness(8);
        x.witness(16);
        Check.due("nodes() after refused witnesses", x.nodes(), 167);
        x.clear(0);
        x.clear(1);
        Check.due("nodes() after clear", x.nodes(), 167);
        Given.leaves(x, 40);
        Check.due("nodes() when there are 200", x.nodes(), 200);
    }

    private static void partOfANode() {
        Check.sentence("9", "The symbol of node n for what 0, its left child for 1, its right child for 2");
        TreeMachines x = new TreeMachines();
        Given.leaves(x, 100);
        for (int i = 0; i < 100; i++) {
            x.node(5 + i % 3, 99 - i, 100 + i - 1);
        }
        for (int i = 0; i < 100; i++) {
            Check.due("part(" + (100 + i) + ", 0)", x.part(100 + i, 0), 5 + i % 3);
            Check.due("part(" + (100 + i) + ", 1)", x.part(100 + i, 1), 99 - i);
            Check.due("part(" + (100 + i) + ", 2)", x.part(100 + i, 2), 99 + i);
        }
    }

    private static void partThatItHasNot() {
        Check.sentence("9", "(-1 if it has none)");
        TreeMachines x = new TreeMachines();
        for (int symbol = 0; symbol < 8; symbol++) {
            x.node(symbol, 0, 0);
            Check.due("part(" + symbol + ", 0)", x.part(symbol, 0), symbol);
            Check.due("part(" + symbol + ", 1)", x.part(symbol, 1), symbol < 3 ? -1 : 0);
            Check.due("part(" + symbol + ", 2)", x.part(symbol, 2), symbol < 5 ? -1 : 0);
        }
        Check.due("witness(15)", x.witness(15), 8);
        Check.due("left of a witness", x.part(8, 1), -1);
        Check.due("right of a witness", x.part(8, 2), -1);
    }

    private static void partOfNoNode() {
        Check.sentence("9", "-2 if n is no node");
        TreeMachines x = new TreeMachines();
        x.node(5, 0, 0);
        for (int what = 0; what < 3; what++) {
            Check.due("part(0, " + what + ") where there is none", x.part(0, what), -2);
        }
        Given.leaves(x, 2);
        for (int wrong : Given.outside(2)) {
            for (int what = 0; what < 3; what++) {
                Check.due("part(" + wrong + ", " + what + ")", x.part(wrong, what), -2);
            }
        }
        Given.leaves(x, 198);
        Check.due("part(199, 0)", x.part(199, 0), 0);
        Check.due("part(200, 0)", x.part(200, 0), -2);
        Check.due("part(200, 1)", x.part(200, 1), -2);
        Check.due("part(200, 2)", x.part(200, 2), -2);
    }

    private static void partOfSomethingElse() {
        Check.sentence("9", "-2 if .. what is something else");
        TreeMachines x = new TreeMachines();
        int n = Given.plant(x, "5312");
        for (int wrong : Given.outside(3)) {
            Check.due("part(" + n + ", " + wrong + ")", x.part(n, wrong), -2);
            Check.due("part(0, " + wrong + ")", x.part(0, wrong), -2);
            Check.due("part(" + wrong + ", " + wrong + ")", x.part(wrong < 0 ? wrong : -wrong, wrong), -2);
        }
    }

    private static void reachedSum() {
        Check.sentence("10", "The sum of 1 << q for the states q that the term of node n reaches");
        for (int set = 0; set < 256; set++) {
            TreeMachines x = new TreeMachines();
            x.node(2, 0, 0);
            x.node(4, 0, 0);
            for (int i = 0; i < 8; i++) {
                if ((set >> i & 1) == 1) {
                    x.rule(i >> 2, 2, 0, 0, i & 3);
                }
                x.rule(i >> 2, 4, i & 3, 0, 3 - (i & 3));
            }
            Check.due("reached(0, 0) of " + set, x.reached(0, 0), set & 15);
            Check.due("reached(1, 0) of " + set, x.reached(1, 0), set >> 4);
            Check.due("reached(0, 1) of " + set, x.reached(0, 1), mirrored(set & 15));
            Check.due("reached(1, 1) of " + set, x.reached(1, 1), mirrored(set >> 4));
        }
    }

    private static int mirrored(int set) {
        return (set & 1) << 3 | (set & 2) << 1 | (set & 4) >> 1 | (set & 8) >> 3;
    }

    private static void reachedNone() {
        Check.sentence("10", "the states q that the term of node n reaches, where it reaches none");
        TreeMachines x = new TreeMachines();
        int n = Given.plant(x, "5310");
        Check.due("without rules", x.reached(0, n), 0);
        x.rule(0, 5, 0, 0, 3);
        Check.due("children reach none", x.reached(0, n), 0);
        x.rule(0, 0, 0, 0, 0);
        Check.due("the left child reaches none", x.reached(0, n), 0);
        x.rule(0, 1, 0, 0, 1);
        x.rule(0, 3, 0, 0, 0);
        Check.due("the left child's child reaches another", x.reached(0, n), 0);
        x.rule(0, 3, 1, 0, 0);
        Check.due("now all fit", x.reached(0, n), 8);
        x.drop(0, 0, 0, 0, 0);
        Check.due("the right child reaches none", x.reached(0, n), 0);
    }

    private static void reachedFollowsTheRules() {
        Check.sentence("10", "the states q that the term of node n reaches, however old the node is");
        TreeMachines x = new TreeMachines();
        x.node(0, 0, 0);
        for (int n = 1; n < 200; n++) {
            x.node(n % 2 == 0 ? 3 : 6, n - 1, n - 1);
        }
        x.rule(1, 0, 0, 0, 0);
        for (int state = 0; state < 4; state++) {
            x.rule(1, 3, state, 0, state);
            x.rule(1, 6, state, state, (state + 1) % 4);
        }
        for (int n = 0; n < 200; n++) {
            Check.due("reached(1, " + n + ")", x.reached(1, n), 1 << (n + 1) / 2 % 4);
        }
        x.drop(1, 6, 2, 2, 3);
        Check.due("below the dropped rule", x.reached(1, 4), 4);
        Check.due("above the dropped rule", x.reached(1, 5), 0);
        Check.due("far above the dropped rule", x.reached(1, 199), 0);
        x.rule(1, 6, 2, 2, 3);
        Check.due("above the rule that is back", x.reached(1, 199), 1);
        Check.due("the other machine", x.reached(0, 199), 0);
    }

    private static void reachedOfWrongMachine() {
        Check.sentence("10", "-1 if machine is not 0 .. 1");
        TreeMachines x = new TreeMachines();
        x.node(0, 0, 0);
        x.rule(0, 0, 0, 0, 0);
        x.rule(1, 0, 0, 0, 0);
        for (int wrong : Given.outside(2)) {
            Check.due("reached(" + wrong + ", 0)", x.reached(wrong, 0), -1);
            Check.due("reached(" + wrong + ", 1)", x.reached(wrong, 1), -1);
        }
    }

    private static void reachedOfNoNode() {
        Check.sentence("10", "-1 if .. n no node");
        TreeMachines x = new TreeMachines();
        Check.due("reached(0, 0) where there is none", x.reached(0, 0), -1);
        Given.leaves(x, 2);
        for (int wrong : Given.outside(2)) {
            Check.due("reached(0, " + wrong + ")", x.reached(0, wrong), -1);
            Check.due("reached(1, " + wrong + ")", x.reached(1, wrong), -1);
        }
        Given.leaves(x, 198);
        Check.due("reached(0, 199)", x.reached(0, 199), 0);
        Check.due("reached(0, 200)", x.reached(0, 200), -1);
    }

    private static void placeOfNoNode() {
        Check.sentence("11", "-1 if it is no node");
        TreeMachines x = new TreeMachines();
        Given.acceptAll(x, 0);
        Check.due("place(0) where there is none", x.place(0), -1);
        Given.leaves(x, 2);
        for (int wrong : Given.outside(2)) {
            Check.due("place(" + wrong + ")", x.place(wrong), -1);
        }
        Check.due("place(0)", x.place(0), 2);
        Check.due("place(1)", x.place(1), 2);
    }

    private static void placeOfTheLastNode() {
        Check.sentence("11", "The place of the term of node n, where n is the last of 200");
        TreeMachines x = new TreeMachines();
        Given.leaves(x, 199);
        x.node(5, 198, 0);
        x.rule(1, 0, 0, 0, 1);
        x.rule(1, 5, 1, 1, 2);
        x.goal(1, 2, true);
        Check.due("place(198)", x.place(198), 0);
        Check.due("place(199)", x.place(199), 1);
        Check.due("place(200)", x.place(200), -1);
        x.goal(1, 1, true);
        Check.due("place(198) with another goal", x.place(198), 1);
    }

    private static void sizeAtMost1000() {
        Check.sentence("12", "at most 1000 (1000 if it is more)");
        // 511 below 255, 127, 63, 31 and 7, each with a symbol above both: 999.
        TreeMachines x = new TreeMachines();
        x.node(0, 0, 0);
        for (int n = 1; n < 9; n++) {
            x.node(7, n - 1, n - 1);
            Check.due("size(" + n + ")", x.size(n), (2 << n) - 1);
        }
        int[] more = {7, 6, 5, 4, 2};
        int[] due = {767, 895, 959, 991, 999};
        for (int i = 0; i < more.length; i++) {
            x.node(5, 8 + i, more[i]);
            Check.due("size(" + (9 + i) + ")", x.size(9 + i), due[i]);
        }
        int n = x.node(3, 13, 0);
        Check.due("999 and one more", x.size(n), 1000);
        Check.due("1000 and one more", x.size(x.node(4, n, 0)), 1000);
        Check.due("999 and a leaf to the right", x.size(x.node(5, 13, 0)), 1000);
        Check.due("999 and a leaf to the left", x.size(x.node(6, 0, 13)), 1000);
        Check.due("991, a leaf and 7", x.size(x.node(6, x.node(7, 12, 0), 2)), 1000);
        Check.due("991 and 7", x.size(x.node(6, 12, 2)), 999);
        Check.due("999 twice", x.size(x.node(6, 13, 13)), 1000);
        Check.due("1000 below a leaf", x.size(x.node(6, 0, n)), 1000);
    }

    private static void sizeDoesNotWrapAround() {
        Check.sentence("12", "1000 if it is more, also where no int or long holds it");
        TreeMachines x = new TreeMachines();
        x.node(1, 0, 0);
        for (int n = 1; n < 200; n++) {
            x.node(5 + n % 3, n - 1, n - 1);
            Check.due("size(" + n + ")", x.size(n), n < 9 ? (2 << n) - 1 : 1000);
        }
    }

    private static void sizeOfNoNode() {
        Check.sentence("12", "-1 if it is no node");
        TreeMachines x = new TreeMachines();
        Check.due("size(0) where there is none", x.size(0), -1);
        Given.leaves(x, 2);
        for (int wrong : Given.outside(2)) {
            Check.due("size(" + wrong + ")", x.size(wrong), -1);
        }
        Given.leaves(x, 198);
        Check.due("size(199)", x.size(199), 1);
        Check.due("size(200)", x.size(200), -1);
    }
}
