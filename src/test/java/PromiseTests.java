/** Each promise by itself: ordinary inputs, the edges that the document names, and wrong inputs. */
public final class PromiseTests {
    private static final int[] WRONG = {Integer.MIN_VALUE, -100, -1, 100, 65536, Integer.MAX_VALUE};

    public static void main(String[] args) {
        newObject();
        rule();
        drop();
        isRule();
        takenAsZero();
        goal();
        clear();
        node();
        nodeLimit();
        part();
        reached();
        place();
        size();
        sizeLimit();
        included();
        least();
        leastLimit();
        witness();
        witnessOrder();
        witnessLimits();
        terms();
        Check.end();
    }

    private static void newObject() {
        TreeMachines x = new TreeMachines();
        Check.due("1: nodes()", x.nodes(), 0);
        Check.due("1: part(0, 0)", x.part(0, 0), -2);
        Check.due("1: goal(0, 0, false)", x.goal(0, 0, false), false);
        for (int sort = 0; sort < 16; sort++) {
            Check.due("1: least(" + sort + ")", x.least(sort), sort & 1);
        }
        Check.due("1: included()", x.included(), true);
        TreeMachines other = new TreeMachines();
        x.rule(0, 0, 0, 0, 0);
        x.node(0, 0, 0);
        Check.due("1: isRule on another object", other.isRule(0, 0, 0, 0, 0), false);
        Check.due("1: nodes() on another object", other.nodes(), 0);
    }

    private static void rule() {
        TreeMachines x = new TreeMachines();
        Check.due("2: a new rule", x.rule(0, 5, 1, 2, 3), true);
        Check.due("2: the same again", x.rule(0, 5, 1, 2, 3), false);
        Check.due("2: it is there", x.isRule(0, 5, 1, 2, 3), true);
        Check.due("2: in the other machine", x.isRule(1, 5, 1, 2, 3), false);
        Check.due("2: the other machine's", x.rule(1, 5, 1, 2, 3), true);
        Check.due("2: left and right changed", x.rule(0, 5, 2, 1, 3), true);
        Check.due("2: another to", x.rule(0, 5, 1, 2, 0), true);
        Check.due("2: another symbol", x.rule(0, 6, 1, 2, 3), true);
        Check.due("2: the last of all", x.rule(1, 7, 3, 3, 3), true);
        for (int wrong : WRONG) {
            Check.due("2: machine " + wrong, x.rule(wrong, 5, 0, 0, 0), false);
            Check.due("2: symbol " + wrong, x.rule(0, wrong, 0, 0, 0), false);
            Check.due("2: left " + wrong, x.rule(0, 5, wrong, 0, 0), false);
            Check.due("2: right " + wrong, x.rule(0, 5, 0, wrong, 0), false);
            Check.due("2: to " + wrong, x.rule(0, 5, 0, 0, wrong), false);
            Check.due("2: left of one child " + wrong, x.rule(0, 3, wrong, 0, 0), false);
        }
        Check.due("2: machine 2", x.rule(2, 5, 0, 0, 0), false);
        Check.due("2: symbol 8", x.rule(0, 8, 0, 0, 0), false);
        Check.due("2: left 4", x.rule(0, 5, 4, 0, 0), false);
        Check.due("2: right 4", x.rule(0, 5, 0, 4, 0), false);
        Check.due("2: to 4", x.rule(0, 5, 0, 0, 4), false);
        Check.due("2: nothing came of the wrong ones", x.isRule(0, 5, 0, 0, 0), false);
    }

    private static void drop() {
        TreeMachines x = new TreeMachines();
        Check.due("3: what is not there", x.drop(0, 5, 1, 2, 3), false);
        x.rule(0, 5, 1, 2, 3);
        x.rule(0, 5, 1, 2, 2);
        x.rule(1, 5, 1, 2, 3);
        Check.due("3: what is there", x.drop(0, 5, 1, 2, 3), true);
        Check.due("3: it is gone", x.isRule(0, 5, 1, 2, 3), false);
        Check.due("3: again", x.drop(0, 5, 1, 2, 3), false);
        Check.due("3: another to stays", x.isRule(0, 5, 1, 2, 2), true);
        Check.due("3: the other machine's stays", x.isRule(1, 5, 1, 2, 3), true);
        Check.due("3: it can come back", x.rule(0, 5, 1, 2, 3), true);
        for (int wrong : WRONG) {
            Check.due("3: machine " + wrong, x.drop(wrong, 5, 1, 2, 3), false);
            Check.due("3: symbol " + wrong, x.drop(0, wrong, 1, 2, 3), false);
            Check.due("3: left " + wrong, x.drop(0, 5, wrong, 2, 3), false);
            Check.due("3: right " + wrong, x.drop(0, 5, 1, wrong, 3), false);
            Check.due("3: to " + wrong, x.drop(0, 5, 1, 2, wrong), false);
        }
        Check.due("3: the wrong ones took nothing", x.isRule(0, 5, 1, 2, 3), true);
        dropIsSeen();
    }

    /** Two rules to one state: it is reached until both are gone. */
    private static void dropIsSeen() {
        TreeMachines x = new TreeMachines();
        x.rule(0, 0, 0, 0, 0);
        x.rule(0, 0, 0, 0, 1);
        x.rule(0, 3, 0, 0, 2);
        x.rule(0, 3, 1, 0, 2);
        x.goal(0, 2, true);
        x.node(0, 0, 0);
        x.node(3, 0, 0);
        x.drop(0, 3, 0, 0, 2);
        Check.due("3: reached by the other rule", x.reached(0, 1), 4);
        Check.due("3: counted by the other rule", x.terms(4, 2), 1);
        x.drop(0, 3, 1, 0, 2);
        Check.due("3: not reached any more", x.reached(0, 1), 0);
        Check.due("3: not counted any more", x.terms(4, 2), 0);
        Check.due("3: no least any more", x.least(4), 0);
    }

    private static void isRule() {
        TreeMachines x = new TreeMachines();
        x.rule(1, 7, 3, 2, 1);
        Check.due("4: there", x.isRule(1, 7, 3, 2, 1), true);
        Check.due("4: other machine", x.isRule(0, 7, 3, 2, 1), false);
        Check.due("4: other symbol", x.isRule(1, 6, 3, 2, 1), false);
        Check.due("4: other left", x.isRule(1, 7, 2, 2, 1), false);
        Check.due("4: other right", x.isRule(1, 7, 3, 3, 1), false);
        Check.due("4: other to", x.isRule(1, 7, 3, 2, 2), false);
        Check.due("4: asking makes none", x.isRule(1, 7, 3, 2, 2), false);
        for (int wrong : WRONG) {
            Check.due("4: machine " + wrong, x.isRule(wrong, 7, 3, 2, 1), false);
            Check.due("4: symbol " + wrong, x.isRule(1, wrong, 3, 2, 1), false);
            Check.due("4: left " + wrong, x.isRule(1, 7, wrong, 2, 1), false);
            Check.due("4: right " + wrong, x.isRule(1, 7, 3, wrong, 1), false);
            Check.due("4: to " + wrong, x.isRule(1, 7, 3, 2, wrong), false);
        }
        // Numbers that would name the same place if they only were added up.
        Check.due("4: right 6 is not left 1 more", x.isRule(1, 7, 2, 6, 1), false);
        Check.due("4: left 7 is not symbol 1 more", x.isRule(1, 6, 7, 2, 1), false);
        Check.due("4: to 33 is not to 1", x.isRule(1, 7, 3, 2, 33), false);
    }

    /** Promises 2 to 4 where a symbol has not both children. */
    private static void takenAsZero() {
        for (int wrong : WRONG) {
            TreeMachines x = new TreeMachines();
            Check.due("2: leaf with " + wrong, x.rule(0, 2, wrong, wrong, 1), true);
            Check.due("2: the same leaf", x.rule(0, 2, 0, 3, 1), false);
            Check.due("4: leaf", x.isRule(0, 2, 1, wrong, 1), true);
            Check.due("2: one child with " + wrong, x.rule(0, 4, 1, wrong, 2), true);
            Check.due("2: the same with one child", x.rule(0, 4, 1, 0, 2), false);
            Check.due("4: one child", x.isRule(0, 4, 1, 3, 2), true);
            Check.due("4: one child, other left", x.isRule(0, 4, 0, 3, 2), false);
            x.node(2, 0, 0);
            x.node(4, 0, 0);
            Check.due("10: leaf", x.reached(0, 0), 2);
            Check.due("10: one child", x.reached(0, 1), 4);
            Check.due("3: leaf with " + wrong, x.drop(0, 2, 3, wrong, 1), true);
            Check.due("3: one child with " + wrong, x.drop(0, 4, 1, wrong, 2), true);
            Check.due("3: leaf is gone", x.isRule(0, 2, 0, 0, 1), false);
            Check.due("3: one child is gone", x.isRule(0, 4, 1, 0, 2), false);
        }
    }

    private static void goal() {
        TreeMachines x = new TreeMachines();
        x.rule(0, 0, 0, 0, 3);
        x.rule(1, 0, 0, 0, 3);
        x.node(0, 0, 0);
        Check.due("5: on", x.goal(0, 3, true), true);
        Check.due("5: on again", x.goal(0, 3, true), false);
        Check.due("5: seen", x.place(0), 2);
        Check.due("5: off", x.goal(0, 3, false), true);
        Check.due("5: off again", x.goal(0, 3, false), false);
        Check.due("5: gone", x.place(0), 0);
        Check.due("5: the other machine's", x.goal(1, 3, true), true);
        Check.due("5: the other machine's is seen", x.place(0), 1);
        Check.due("5: least sees it", x.least(2), 1);
        x.goal(1, 3, false);
        Check.due("5: least sees that it is gone", x.least(2), 0);
        for (int wrong : WRONG) {
            Check.due("5: machine " + wrong, x.goal(wrong, 0, true), false);
            Check.due("5: state " + wrong, x.goal(0, wrong, true), false);
        }
        Check.due("5: machine 2", x.goal(2, 0, true), false);
        Check.due("5: state 4", x.goal(0, 4, true), false);
        Check.due("5: state 35 is not state 3", x.goal(0, 35, true), false);
        Check.due("5: the wrong ones changed nothing", x.place(0), 0);
    }

    private static void clear() {
        TreeMachines x = new TreeMachines();
        Check.due("6: nothing to take away", x.clear(1), true);
        for (int machine = 0; machine < 2; machine++) {
            x.rule(machine, 0, 0, 0, 0);
            x.rule(machine, 7, 0, 0, 3);
            x.goal(machine, 3, true);
            x.goal(machine, 0, true);
        }
        x.node(0, 0, 0);
        x.node(7, 0, 0);
        Check.due("6: counted before", x.terms(8, 3), 1);
        Check.due("6: clear(0)", x.clear(0), true);
        Check.due("6: rule gone", x.isRule(0, 7, 0, 0, 3), false);
        Check.due("6: leaf's rule gone", x.isRule(0, 0, 0, 0, 0), false);
        Check.due("6: reaches nothing", x.reached(0, 1), 0);
        Check.due("6: the other machine is whole", x.place(1), 1);
        Check.due("6: nodes stay", x.nodes(), 2);
        Check.due("6: counted no more", x.terms(8, 3), 0);
        x.rule(0, 0, 0, 0, 0);
        Check.due("6: the goals are gone", x.place(0), 1);
        Check.due("6: no rule comes back", x.reached(0, 1), 0);
        Check.due("6: a goal is new again", x.goal(0, 0, true), true);
        for (int wrong : WRONG) {
            Check.due("6: machine " + wrong, x.clear(wrong), false);
        }
        Check.due("6: machine 2", x.clear(2), false);
        Check.due("6: the wrong ones took nothing", x.place(0), 3);
    }

    private static void node() {
        TreeMachines x = new TreeMachines();
        Check.due("7: no child is there", x.node(3, 0, 0), -2);
        Check.due("7: itself as child", x.node(5, 0, 0), -2);
        Check.due("7: leaf 0", x.node(0, 0, 0), 0);
        Check.due("7: leaf 1, children not looked at", x.node(1, -7, 900), 1);
        Check.due("7: leaf 2, children not looked at", x.node(2, Integer.MIN_VALUE, Integer.MAX_VALUE), 2);
        Check.due("7: right not looked at", x.node(3, 2, Integer.MIN_VALUE), 3);
        Check.due("7: right not looked at", x.node(4, 3, 999), 4);
        Check.due("7: one child twice", x.node(5, 4, 4), 5);
        Check.due("7: two children", x.node(7, 5, 0), 6);
        for (int wrong : WRONG) {
            Check.due("7: symbol " + wrong, x.node(wrong, 0, 0), -1);
            Check.due("7: symbol before child " + wrong, x.node(wrong, wrong, wrong), -1);
            Check.due("7: left " + wrong, x.node(5, wrong, 0), -2);
            Check.due("7: right " + wrong, x.node(6, 0, wrong), -2);
            Check.due("7: one child " + wrong, x.node(4, wrong, 0), -2);
        }
        Check.due("7: symbol 8", x.node(8, 0, 0), -1);
        Check.due("7: left is the next one", x.node(7, 7, 0), -2);
        Check.due("7: right is the next one", x.node(7, 0, 7), -2);
        Check.due("8: only those that were made", x.nodes(), 7);
        Check.due("7: the next number", x.node(0, 0, 0), 7);
    }

    private static void nodeLimit() {
        TreeMachines x = new TreeMachines();
        for (int n = 0; n < 200; n++) {
            Check.due("8: before node " + n, x.nodes(), n);
            Check.due("7: node " + n, x.node(n == 0 ? 0 : 3, n - 1, 0), n);
        }
        Check.due("7: the 201st", x.node(0, 0, 0), -3);
        Check.due("7: the 201st with children", x.node(5, 199, 0), -3);
        Check.due("7: a wrong symbol first", x.node(8, 0, 0), -1);
        Check.due("7: a wrong child first", x.node(3, 200, 0), -2);
        Check.due("8: nodes()", x.nodes(), 200);
        Check.due("9: the last node", x.part(199, 1), 198);
        Check.due("9: none behind it", x.part(200, 0), -2);
        Check.due("12: the last node", x.size(199), 200);
        x.rule(0, 0, 0, 0, 0);
        x.rule(0, 3, 0, 0, 1);
        x.rule(0, 3, 1, 0, 0);
        Check.due("10: the last node", x.reached(0, 199), 2);
    }

    private static void part() {
        TreeMachines x = new TreeMachines();
        x.node(1, 0, 0);
        x.node(4, 0, 0);
        x.node(6, 1, 0);
        Check.due("9: symbol of a leaf", x.part(0, 0), 1);
        Check.due("9: left of a leaf", x.part(0, 1), -1);
        Check.due("9: right of a leaf", x.part(0, 2), -1);
        Check.due("9: symbol of one child", x.part(1, 0), 4);
        Check.due("9: left of one child", x.part(1, 1), 0);
        Check.due("9: right of one child", x.part(1, 2), -1);
        Check.due("9: symbol of two", x.part(2, 0), 6);
        Check.due("9: left of two", x.part(2, 1), 1);
        Check.due("9: right of two", x.part(2, 2), 0);
        for (int wrong : WRONG) {
            Check.due("9: node " + wrong, x.part(wrong, 0), -2);
            Check.due("9: what " + wrong, x.part(2, wrong), -2);
            Check.due("9: both " + wrong, x.part(wrong, wrong), -2);
        }
        Check.due("9: what 3", x.part(2, 3), -2);
        Check.due("9: node 3", x.part(3, 1), -2);
    }

    private static void reached() {
        TreeMachines x = new TreeMachines();
        x.node(0, 0, 0);
        x.node(1, 0, 0);
        x.node(5, 0, 1);
        x.node(5, 1, 0);
        Check.due("10: no rules", x.reached(0, 2), 0);
        x.rule(0, 0, 0, 0, 0);
        x.rule(0, 0, 0, 0, 3);
        x.rule(0, 1, 0, 0, 1);
        x.rule(0, 5, 0, 1, 2);
        x.rule(0, 5, 3, 1, 1);
        x.rule(0, 5, 3, 0, 3);
        Check.due("10: two states", x.reached(0, 0), 9);
        Check.due("10: one state", x.reached(0, 1), 2);
        Check.due("10: by two rules", x.reached(0, 2), 6);
        Check.due("10: left and right changed", x.reached(0, 3), 0);
        Check.due("10: the other machine", x.reached(1, 2), 0);
        x.rule(1, 0, 0, 0, 3);
        x.rule(1, 1, 0, 0, 3);
        for (int to = 0; to < 4; to++) {
            x.rule(1, 5, 3, 3, to);
        }
        Check.due("10: all states", x.reached(1, 2), 15);
        Check.due("10: machine 0 as before", x.reached(0, 2), 6);
        for (int wrong : WRONG) {
            Check.due("10: machine " + wrong, x.reached(wrong, 0), -1);
            Check.due("10: node " + wrong, x.reached(0, wrong), -1);
        }
        Check.due("10: machine 2", x.reached(2, 0), -1);
        Check.due("10: node 4", x.reached(0, 4), -1);
    }

    private static void place() {
        TreeMachines x = new TreeMachines();
        x.node(0, 0, 0);
        x.node(1, 0, 0);
        x.node(2, 0, 0);
        x.rule(0, 0, 0, 0, 0);
        x.rule(0, 0, 0, 0, 1);
        x.rule(0, 2, 0, 0, 1);
        x.rule(1, 1, 0, 0, 1);
        x.rule(1, 2, 0, 0, 2);
        x.goal(0, 1, true);
        x.goal(1, 1, true);
        x.goal(1, 2, true);
        Check.due("11: one of two states is a goal", x.place(0), 2);
        Check.due("11: machine 1 alone", x.place(1), 1);
        Check.due("11: both", x.place(2), 3);
        x.goal(0, 0, true);
        Check.due("11: two goals count once", x.place(0), 2);
        x.goal(0, 0, false);
        x.goal(0, 1, false);
        Check.due("11: none", x.place(0), 0);
        for (int wrong : WRONG) {
            Check.due("11: node " + wrong, x.place(wrong), -1);
        }
        Check.due("11: node 3", x.place(3), -1);
    }

    private static void size() {
        TreeMachines x = new TreeMachines();
        x.node(2, 0, 0);
        x.node(3, 0, 0);
        x.node(5, 1, 1);
        x.node(6, 2, 0);
        Check.due("12: a leaf", x.size(0), 1);
        Check.due("12: one child", x.size(1), 2);
        Check.due("12: a child twice", x.size(2), 5);
        Check.due("12: two children", x.size(3), 7);
        for (int wrong : WRONG) {
            Check.due("12: node " + wrong, x.size(wrong), -1);
        }
        Check.due("12: node 4", x.size(4), -1);
    }

    private static void sizeLimit() {
        TreeMachines x = new TreeMachines();
        x.node(0, 0, 0);
        for (int n = 1; n < 9; n++) {
            x.node(7, n - 1, n - 1);
        }
        Check.due("12: 2^9 - 1", x.size(8), 511);
        // 511 + 255 + 127 + 63 + 31 + 7 and a symbol above each but the first: 999.
        int[] more = {7, 6, 5, 4, 2};
        for (int i = 0; i < more.length; i++) {
            x.node(5, 8 + i, more[i]);
        }
        Check.due("12: 999", x.size(13), 999);
        x.node(3, 13, 0);
        Check.due("12: 1000", x.size(14), 1000);
        x.node(3, 14, 0);
        Check.due("12: 1001", x.size(15), 1000);
        for (int n = 16; n < 200; n++) {
            x.node(6, n - 1, n - 1);
        }
        Check.due("12: far more than an int holds", x.size(199), 1000);
    }

    private static void included() {
        TreeMachines x = new TreeMachines();
        Check.due("13: both empty", x.included(), true);
        x.rule(1, 0, 0, 0, 0);
        x.goal(1, 0, true);
        Check.due("13: machine 0 empty", x.included(), true);
        x.rule(0, 0, 0, 0, 2);
        x.goal(0, 2, true);
        Check.due("13: the same set", x.included(), true);
        x.rule(0, 3, 2, 0, 2);
        Check.due("13: more in machine 0", x.included(), false);
        // Machine 1 accepts them by two ways, even and odd; neither alone is enough.
        x.rule(1, 3, 0, 0, 1);
        x.rule(1, 3, 1, 0, 0);
        Check.due("13: the odd ones are missing", x.included(), false);
        x.goal(1, 1, true);
        Check.due("13: even and odd together", x.included(), true);
        x.drop(1, 3, 1, 0, 0);
        Check.due("13: larger ones are missing", x.included(), false);
        x.clear(1);
        Check.due("13: machine 1 empty", x.included(), false);
        x.goal(0, 2, false);
        Check.due("13: no goal in machine 0", x.included(), true);
        includedButForLargeTerms();
    }

    /** The least term that machine 1 lacks is larger than any size that least tells. */
    private static void includedButForLargeTerms() {
        TreeMachines x = doubling();
        x.goal(0, 3, true);
        for (int state = 0; state < 4; state++) {
            x.goal(1, state, true);
        }
        Check.due("14: what machine 1 lacks", x.least(4), 33);
        Check.due("13: it lacks large terms", x.included(), false);
        for (int i = 0; i < 16; i++) {
            x.rule(1, 5, i >> 2, i & 3, 0);
            x.rule(1, 6, i >> 2, i & 3, 0);
        }
        Check.due("13: it lacks none", x.included(), true);
    }

    /**
     * Machines where state i of machine 0 and j of machine 1 are both reached by one term alone, of size
     * 2^(4j + i + 1) - 1: symbol 5 goes on in machine 0, 6 starts it anew and goes on in machine 1.
     */
    private static TreeMachines doubling() {
        TreeMachines x = new TreeMachines();
        x.rule(0, 0, 0, 0, 0);
        x.rule(1, 0, 0, 0, 0);
        for (int i = 0; i < 3; i++) {
            x.rule(0, 5, i, i, i + 1);
            x.rule(1, 6, i, i, i + 1);
        }
        x.rule(0, 6, 3, 3, 0);
        for (int j = 0; j < 4; j++) {
            x.rule(1, 5, j, j, j);
        }
        return x;
    }

    private static void least() {
        TreeMachines x = new TreeMachines();
        Check.due("14: sort 0", x.least(0), 0);
        Check.due("14: sort 15", x.least(15), 1);
        Check.due("14: none is in both", x.least(8), 0);
        for (int wrong : WRONG) {
            Check.due("14: sort " + wrong, x.least(wrong), -1);
        }
        Check.due("14: sort 16", x.least(16), -1);
        // All terms are accepted by machine 0, so the least term that is not has to be of none.
        for (int symbol = 0; symbol < 8; symbol++) {
            x.rule(0, symbol, 0, 0, 0);
        }
        x.goal(0, 0, true);
        Check.due("14: none is outside of machine 0", x.least(3), 0);
        Check.due("14: all are in it", x.least(4), 1);
        x.rule(1, 1, 0, 0, 0);
        x.rule(1, 4, 0, 0, 1);
        x.rule(1, 6, 1, 0, 2);
        x.goal(1, 2, true);
        Check.due("14: 6(4(1), 1)", x.least(8), 4);
        Check.due("14: the others", x.least(7), 1);
        x.drop(1, 6, 1, 0, 2);
        Check.due("14: no longer", x.least(8), 0);
    }

    private static void leastLimit() {
        TreeMachines x = doubling();
        x.goal(0, 3, true);
        x.goal(1, 0, true);
        Check.due("14: size 15", x.least(8), 15);
        x.goal(0, 3, false);
        x.goal(0, 0, true);
        x.goal(1, 0, false);
        x.goal(1, 1, true);
        Check.due("14: size 31", x.least(8), 31);
        x.goal(0, 0, false);
        x.goal(0, 2, true);
        Check.due("14: size 127", x.least(8), 33);
        x.rule(0, 3, 0, 0, 2);
        x.rule(1, 3, 1, 0, 1);
        Check.due("14: size 32", x.least(8), 32);
        x.drop(0, 3, 0, 0, 2);
        x.rule(0, 3, 0, 0, 3);
        x.rule(0, 4, 3, 0, 2);
        x.rule(1, 4, 1, 0, 1);
        Check.due("14: size 33", x.least(8), 33);
        Check.due("15: size 33", x.witness(8), -3);
        TreeMachines last = doubling();
        last.goal(0, 3, true);
        last.goal(1, 3, true);
        Check.due("14: size 65535", last.least(8), 33);
        Check.due("15: size 65535", last.witness(8), -3);
        last.drop(0, 6, 3, 3, 0);
        Check.due("14: none", last.least(8), 0);
        Check.due("15: none", last.witness(8), -2);
    }

    private static void witness() {
        TreeMachines x = new TreeMachines();
        x.node(2, 0, 0);
        Check.due("15: sort 15", x.witness(15), 1);
        dueWriting("15: the least of all", x, 1, "0");
        Check.due("15: none", x.witness(14), -2);
        Check.due("15: sort 0", x.witness(0), -2);
        for (int wrong : WRONG) {
            Check.due("15: sort " + wrong, x.witness(wrong), -1);
        }
        Check.due("15: sort 16", x.witness(16), -1);
        Check.due("15: nothing else is made", x.nodes(), 2);
        x.rule(1, 0, 0, 0, 0);
        x.rule(1, 2, 0, 0, 1);
        x.rule(1, 3, 1, 0, 2);
        x.rule(1, 7, 2, 0, 3);
        x.goal(1, 3, true);
        Check.due("15: 7(3(2), 0)", x.witness(2), 5);
        Check.due("15: the last of the writing is made first", x.part(2, 0), 0);
        Check.due("15: then the one before", x.part(3, 0), 2);
        Check.due("15: then its parent", x.part(4, 0), 3);
        Check.due("15: whose child it is", x.part(4, 1), 3);
        Check.due("15: the term itself", x.part(5, 0), 7);
        Check.due("15: its left child", x.part(5, 1), 4);
        Check.due("15: its right child", x.part(5, 2), 2);
        Check.due("15: it is of the sort", x.place(5), 1);
        Check.due("15: its size", x.size(5), 4);
        Check.due("15: made anew each time", x.witness(2), 9);
        Check.due("15: no node is shared", x.part(9, 1), 8);
    }

    private static void dueWriting(String call, TreeMachines x, int n, String want) {
        Check.due(call, Given.writing(x, n), want);
    }

    /** Terms of the same size: the lesser symbol where the writings first differ decides. */
    private static void witnessOrder() {
        TreeMachines leaves = new TreeMachines();
        leaves.rule(0, 2, 0, 0, 0);
        leaves.rule(0, 1, 0, 0, 1);
        leaves.goal(0, 0, true);
        leaves.goal(0, 1, true);
        dueWriting("15: the lesser leaf", leaves, leaves.witness(4), "1");

        // Size 4 by 5(1, 3(2)) or 5(3(2), 1) or 4(6(1, 2)).
        TreeMachines shapes = new TreeMachines();
        shapes.rule(0, 1, 0, 0, 0);
        shapes.rule(0, 2, 0, 0, 1);
        shapes.rule(0, 3, 1, 0, 2);
        shapes.rule(0, 5, 2, 0, 3);
        shapes.goal(0, 3, true);
        dueWriting("15: left is larger", shapes, shapes.witness(4), "5321");
        shapes.rule(0, 5, 0, 2, 3);
        dueWriting("15: left is smaller", shapes, shapes.witness(4), "5132");
        shapes.rule(0, 6, 0, 1, 2);
        shapes.rule(0, 4, 2, 0, 3);
        dueWriting("15: less size before less symbols", shapes, shapes.witness(4), "432");

        // Both accept 7(40, 330) and 7(3330, 0) alone: the larger left child is written first.
        TreeMachines lefts = new TreeMachines();
        for (int i = 0; i < 3; i++) {
            lefts.rule(0, 3, i, 0, i + 1);
        }
        lefts.rule(0, 0, 0, 0, 0);
        lefts.rule(0, 4, 0, 0, 3);
        lefts.rule(0, 7, 3, 0, 3);
        lefts.rule(0, 7, 3, 2, 3);
        lefts.goal(0, 3, true);
        lefts.rule(1, 0, 0, 0, 0);
        lefts.rule(1, 3, 0, 0, 2);
        lefts.rule(1, 3, 2, 0, 2);
        lefts.rule(1, 4, 0, 0, 1);
        lefts.rule(1, 7, 1, 2, 3);
        lefts.rule(1, 7, 2, 0, 3);
        lefts.goal(1, 3, true);
        Check.due("16: both of size 6", lefts.terms(8, 6), 2);
        dueWriting("15: the larger left child", lefts, lefts.witness(8), "733300");
        lefts.drop(1, 7, 2, 0, 3);
        dueWriting("15: the smaller left child", lefts, lefts.witness(8), "740330");
    }

    private static void witnessLimits() {
        TreeMachines x = doubling();
        x.goal(0, 0, true);
        x.goal(1, 1, true);
        for (int i = 1; i <= 6; i++) {
            Check.due("15: size 31, time " + i, x.witness(8), 31 * i - 1);
        }
        Check.due("15: 217 would be too many", x.witness(8), -4);
        Check.due("15: nothing is made", x.nodes(), 186);
        while (x.nodes() < 199) {
            x.node(0, 0, 0);
        }
        Check.due("15: a leaf has room", x.witness(15), 199);
        Check.due("15: now it has none", x.witness(15), -4);
        Check.due("15: none before no room", x.witness(0), -2);
        Check.due("15: sort before no room", x.witness(-1), -1);
        x.goal(0, 0, false);
        x.goal(0, 1, true);
        Check.due("15: too large before no room", x.witness(8), -3);

        TreeMachines exact = doubling();
        exact.goal(0, 2, true);
        exact.goal(1, 1, true);
        exact.rule(0, 3, 0, 0, 2);
        exact.rule(1, 3, 1, 0, 1);
        for (int n = 0; n < 168; n++) {
            exact.node(0, 0, 0);
        }
        Check.due("15: size 32 fills all 200", exact.witness(8), 199);
        Check.due("15: its size", exact.size(199), 32);
        Check.due("15: its place", exact.place(199), 3);
        Check.due("15: its child", exact.part(199, 1), 198);

        TreeMachines tight = doubling();
        tight.goal(0, 0, true);
        tight.goal(1, 1, true);
        for (int n = 0; n < 170; n++) {
            tight.node(0, 0, 0);
        }
        Check.due("15: one too many", tight.witness(8), -4);
    }

    private static void terms() {
        TreeMachines x = new TreeMachines();
        long[] due = numbersOfAll();
        for (int n = 1; n <= 12; n++) {
            Check.due("16: all of size " + n, x.terms(15, n), due[n]);
            Check.due("16: none of size " + n, x.terms(14, n), 0);
            Check.due("16: sort 0 of size " + n, x.terms(0, n), 0);
        }
        Check.due("16: all of size 12", x.terms(15, 12), 710383812);
        for (int wrong : WRONG) {
            Check.due("16: sort " + wrong, x.terms(wrong, 3), -1);
            Check.due("16: size " + wrong, x.terms(15, wrong), -1);
        }
        Check.due("16: sort 16", x.terms(16, 3), -1);
        Check.due("16: size 0", x.terms(15, 0), -1);
        Check.due("16: size 13", x.terms(15, 13), -1);
        // Terms of leaf 0 and symbol 5: their numbers are those of Catalan, however many ways a term is reached.
        x.rule(0, 0, 0, 0, 0);
        x.rule(0, 0, 0, 0, 1);
        for (int i = 0; i < 4; i++) {
            x.rule(0, 5, i >> 1, i & 1, i & 1);
        }
        x.goal(0, 0, true);
        x.goal(0, 1, true);
        int[] catalan = {1, 1, 2, 5, 14, 42};
        for (int i = 0; i < catalan.length; i++) {
            Check.due("16: trees of size " + (2 * i + 1), x.terms(4, 2 * i + 1), catalan[i]);
            Check.due("16: trees of size " + (2 * i + 2), x.terms(4, 2 * i + 2), 0);
            Check.due("16: the others", x.terms(1, 2 * i + 1), due[2 * i + 1] - catalan[i]);
        }
        x.goal(0, 0, false);
        x.goal(0, 1, false);
        Check.due("16: without goals", x.terms(4, 11), 0);
        Check.due("16: all again", x.terms(15, 11), due[11]);
    }

    /** How many terms of each size there are at all. */
    private static long[] numbersOfAll() {
        long[] numbers = new long[13];
        numbers[1] = 3;
        for (int size = 2; size <= 12; size++) {
            numbers[size] = 2 * numbers[size - 1];
            for (int left = 1; left < size - 1; left++) {
                numbers[size] += 3 * numbers[left] * numbers[size - 1 - left];
            }
        }
        return numbers;
    }
}
