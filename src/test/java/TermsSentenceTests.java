import java.util.List;

/** Each sentence under 'What it is' and 'Terms' that names a bound or a special case has a test of its own. */
public final class TermsSentenceTests {
    private static final String TERMS = "Terms";

    public static void main(String[] args) {
        usedFor512Calls();
        symbolsWithoutChild();
        symbolsWithOneChild();
        symbolsWithTwoChildren();
        numberedFromZero();
        atMost200();
        childrenMadeBefore();
        childManyTimes();
        machinesAndStates();
        leftTakenAsZero();
        rightTakenAsZero();
        reachesByLeftAndRight();
        reachesByAnyOfManyStates();
        reachesIfItHasAChild();
        acceptedByOneGoal();
        reachesNoneOrMany();
        placeOfATerm();
        sortBits();
        namedSorts();
        sizeCountsTwice();
        lessSizeIsLesser();
        lesserSymbolIsLesser();
        allTermsCount();
        Check.end();
    }

    private static void usedFor512Calls() {
        Check.sentence("What it is", "An object is used for at most 512 calls after it has been made");
        Call[] last = {new Call("rule", 0, 1, 0, 0, 0), new Call("drop", 0, 0, 0, 0, 0),
            new Call("isRule", 0, 0, 0, 0, 0), new Call("goal", 0, 0, 0), new Call("clear", 0),
            new Call("node", 5, 0, 0), new Call("nodes"), new Call("part", 0, 0), new Call("reached", 0, 0),
            new Call("place", 0), new Call("size", 0), new Call("included"), new Call("least", 4),
            new Call("witness", 4), new Call("terms", 4, 1)};
        int[] due = {1, 1, 1, 1, 1, 86, 86, 0, 1, 2, 1, 0, 1, 86, 1};
        for (int i = 0; i < last.length; i++) {
            TreeMachines x = new TreeMachines();
            x.rule(0, 0, 0, 0, 0);
            x.goal(0, 0, true);
            x.node(0, 0, 0);
            for (int calls = 3; calls < 511; calls++) {
                oneOfSixCalls(x, calls);
            }
            Check.due("the 512th call, " + last[i], last[i].on(x), due[i]);
        }
    }

    /** Six calls one after the other leave the machines as they were and make one node. */
    private static void oneOfSixCalls(TreeMachines x, int calls) {
        switch (calls % 6) {
            case 3:
                Check.due("rule at call " + calls, x.rule(1, 0, 0, 0, 3), true);
                break;
            case 4:
                Check.due("terms at call " + calls, x.terms(15, 12), 710383812);
                break;
            case 5:
                Check.due("drop at call " + calls, x.drop(1, 0, 0, 0, 3), true);
                break;
            case 0:
                Check.due("witness at call " + calls, x.witness(4), calls / 6);
                break;
            case 1:
                Check.due("least at call " + calls, x.least(2), 0);
                break;
            default:
                Check.due("reached at call " + calls, x.reached(1, 0), 0);
        }
    }

    private static void symbolsWithoutChild() {
        Check.sentence(TERMS, "0, 1, 2 have no child");
        TreeMachines x = new TreeMachines();
        for (int symbol = 0; symbol < 3; symbol++) {
            Check.due("node(" + symbol + ", -1, -1)", x.node(symbol, -1, -1), symbol);
            dueParts(x, symbol, symbol, -1, -1);
            Check.due("size", x.size(symbol), 1);
        }
        Check.due("how many of size 1", x.terms(15, 1), 3);
    }

    private static void symbolsWithOneChild() {
        Check.sentence(TERMS, "3, 4 have one (the left)");
        TreeMachines x = new TreeMachines();
        for (int symbol = 3; symbol < 5; symbol++) {
            Check.due("node(" + symbol + ", " + x.nodes() + ", 0)", x.node(symbol, x.nodes(), 0), -2);
        }
        x.node(0, 0, 0);
        x.node(1, 0, 0);
        for (int symbol = 3; symbol < 5; symbol++) {
            Check.due("node(" + symbol + ", -1, 1)", x.node(symbol, -1, 1), -2);
            Check.due("node(" + symbol + ", 1, -1)", x.node(symbol, 1, -1), symbol - 1);
            dueParts(x, symbol - 1, symbol, 1, -1);
            Check.due("size", x.size(symbol - 1), 2);
        }
        Check.due("how many of size 2", x.terms(15, 2), 6);
    }

    private static void symbolsWithTwoChildren() {
        Check.sentence(TERMS, "5, 6, 7 have two, a left and a right one");
        TreeMachines x = new TreeMachines();
        x.node(0, 0, 0);
        x.node(1, 0, 0);
        for (int symbol = 5; symbol < 8; symbol++) {
            Check.due("node(" + symbol + ", 1, -1)", x.node(symbol, 1, -1), -2);
            Check.due("node(" + symbol + ", -1, 1)", x.node(symbol, -1, 1), -2);
            Check.due("node(" + symbol + ", 1, 0)", x.node(symbol, 1, 0), symbol - 3);
            dueParts(x, symbol - 3, symbol, 1, 0);
            Check.due("size", x.size(symbol - 3), 3);
        }
        Check.due("how many of size 3", x.terms(15, 3), 39);
    }

    private static void dueParts(TreeMachines x, int n, int symbol, int left, int right) {
        Check.due("part(" + n + ", 0)", x.part(n, 0), symbol);
        Check.due("part(" + n + ", 1)", x.part(n, 1), left);
        Check.due("part(" + n + ", 2)", x.part(n, 2), right);
    }

    private static void numberedFromZero() {
        Check.sentence(TERMS, "numbered from 0 in the order in which they were made");
        TreeMachines x = new TreeMachines();
        Check.due("the first", x.node(2, 0, 0), 0);
        Check.due("the second", x.node(2, 0, 0), 1);
        Check.due("a refused one", x.node(5, 0, 2), -2);
        Check.due("the third", x.node(7, 0, 1), 2);
        Check.due("a refused question", x.witness(8), -2);
        Check.due("the fourth, made by witness", x.witness(1), 3);
        Check.due("the fifth", x.node(1, 0, 0), 4);
        dueParts(x, 2, 7, 0, 1);
        dueParts(x, 3, 0, -1, -1);
        dueParts(x, 4, 1, -1, -1);
    }

    private static void atMost200() {
        Check.sentence(TERMS, "at most 200");
        TreeMachines x = new TreeMachines();
        for (int n = 0; n < 200; n++) {
            Check.due("node " + n, x.node(n % 3, 0, 0), n);
        }
        Check.due("one more", x.node(0, 0, 0), -3);
        Check.due("one more by witness", x.witness(15), -4);
        Check.due("nodes()", x.nodes(), 200);
        for (int n = 0; n < 200; n++) {
            Check.due("part(" + n + ", 0)", x.part(n, 0), n % 3);
        }
    }

    private static void childrenMadeBefore() {
        Check.sentence(TERMS, "as children nodes made before it");
        TreeMachines x = new TreeMachines();
        Check.due("itself, first of all", x.node(3, 0, 0), -2);
        x.node(0, 0, 0);
        Check.due("itself as the one child", x.node(4, 1, 0), -2);
        Check.due("itself as left child", x.node(6, 1, 0), -2);
        Check.due("itself as right child", x.node(6, 0, 1), -2);
        Check.due("one that comes later", x.node(6, 0, 2), -2);
        Check.due("the one before it", x.node(6, 0, 0), 1);
        Check.due("the one before it", x.node(3, 1, 0), 2);
    }

    private static void childManyTimes() {
        Check.sentence(TERMS, "a node can be a child many times");
        TreeMachines x = new TreeMachines();
        x.node(1, 0, 0);
        x.rule(0, 1, 0, 0, 2);
        x.rule(0, 7, 2, 2, 1);
        x.rule(0, 3, 2, 0, 1);
        for (int n = 1; n < 100; n++) {
            Check.due("node " + n, n % 2 == 0 ? x.node(3, 0, 0) : x.node(7, 0, 0), n);
            Check.due("left of " + n, x.part(n, 1), 0);
            Check.due("right of " + n, x.part(n, 2), n % 2 == 0 ? -1 : 0);
            Check.due("reached by " + n, x.reached(0, n), 2);
        }
    }

    private static void machinesAndStates() {
        Check.sentence(TERMS, "MACHINES 0 and 1 have each STATES 0 .. 3");
        for (int machine = 0; machine < 2; machine++) {
            TreeMachines x = new TreeMachines();
            x.node(0, 0, 0);
            x.node(3, 0, 0);
            for (int state = 0; state < 4; state++) {
                Check.due("rule to " + state, x.rule(machine, 0, 0, 0, state), true);
                Check.due("reached(" + machine + ", 0)", x.reached(machine, 0), (2 << state) - 1);
                Check.due("reached by the other machine", x.reached(1 - machine, 0), 0);
                Check.due("goal " + state, x.goal(machine, state, true), true);
                Check.due("place(0)", x.place(0), 2 - machine);
                x.goal(machine, state, false);
            }
            for (int state = 0; state < 4; state++) {
                x.rule(machine, 3, state, 0, 3 - state);
                Check.due("rule from " + state, x.reached(machine, 1), (2 << state) - 1 << 3 - state);
            }
            Check.due("the other machine has no goal", x.goal(1 - machine, 0, false), false);
        }
    }

    private static void leftTakenAsZero() {
        Check.sentence(TERMS, "left is taken as 0 for symbols without a child");
        for (int symbol = 0; symbol < 5; symbol++) {
            TreeMachines x = new TreeMachines();
            boolean taken = symbol < 3;
            Check.due("rule with left 3, symbol " + symbol, x.rule(1, symbol, 3, 0, 1), true);
            Check.due("isRule with left 0", x.isRule(1, symbol, 0, 0, 1), taken);
            Check.due("isRule with left 2", x.isRule(1, symbol, 2, 0, 1), taken);
            Check.due("rule with left 0", x.rule(1, symbol, 0, 0, 1), !taken);
            for (int wrong : Given.outside(4)) {
                Check.due("isRule with left " + wrong, x.isRule(1, symbol, wrong, 0, 1), taken);
                Check.due("drop with left " + wrong, x.drop(1, symbol, wrong, 0, 1), taken);
                Check.due("it is gone", x.isRule(1, symbol, 0, 0, 1), !taken);
                Check.due("rule with left " + wrong, x.rule(1, symbol, wrong, 0, 1), taken);
            }
        }
    }

    private static void rightTakenAsZero() {
        Check.sentence(TERMS, "right as 0 for symbols 0 .. 4");
        for (int symbol = 0; symbol < 8; symbol++) {
            TreeMachines x = new TreeMachines();
            boolean taken = symbol < 5;
            Check.due("rule with right 3, symbol " + symbol, x.rule(0, symbol, 0, 3, 2), true);
            Check.due("isRule with right 0", x.isRule(0, symbol, 0, 0, 2), taken);
            Check.due("isRule with right 1", x.isRule(0, symbol, 0, 1, 2), taken);
            Check.due("rule with right 0", x.rule(0, symbol, 0, 0, 2), !taken);
            for (int wrong : Given.outside(4)) {
                Check.due("isRule with right " + wrong, x.isRule(0, symbol, 0, wrong, 2), taken);
                Check.due("drop with right " + wrong, x.drop(0, symbol, 0, wrong, 2), taken);
                Check.due("it is gone", x.isRule(0, symbol, 0, 0, 2), !taken);
                Check.due("rule with right " + wrong, x.rule(0, symbol, 0, wrong, 2), taken);
            }
        }
    }

    private static void reachesByLeftAndRight() {
        Check.sentence(TERMS, "whose left is reached by the term's left child (if it has one)"
                + " and whose right is reached by its right child (if it has one)");
        for (int symbol = 5; symbol < 8; symbol++) {
            TreeMachines x = fourChildren();
            for (int i = 0; i < 16; i++) {
                x.node(symbol, i >> 2, i & 3);
            }
            for (int i = 0; i < 16; i++) {
                x.rule(1, symbol, i >> 2, i & 3, i & 3);
                for (int j = 0; j < 16; j++) {
                    Check.due("rule " + i + ", symbol " + symbol + ", children " + j, x.reached(1, 4 + j),
                            i == j ? 1 << (i & 3) : 0);
                }
                x.drop(1, symbol, i >> 2, i & 3, i & 3);
            }
        }
    }

    private static void reachesByAnyOfManyStates() {
        Check.sentence(TERMS, "whose left is reached .. and whose right is reached, where the children reach many");
        for (int sets = 0; sets < 256; sets++) {
            TreeMachines x = new TreeMachines();
            for (int i = 0; i < 8; i++) {
                if ((sets >> i & 1) == 1) {
                    x.rule(0, i >> 2, 0, 0, i & 3);
                }
            }
            x.node(0, 0, 0);
            x.node(1, 0, 0);
            x.node(6, 0, 1);
            for (int i = 0; i < 16; i++) {
                x.rule(0, 6, i >> 2, i & 3, i & 3);
                boolean fits = (sets >> (i >> 2) & 1) == 1 && (sets >> 4 + (i & 3) & 1) == 1;
                Check.due("sets " + sets + ", rule " + i, x.reached(0, 2), fits ? 1 << (i & 3) : 0);
                x.drop(0, 6, i >> 2, i & 3, i & 3);
            }
            x.rule(0, 6, 0, 3, 1);
            x.rule(0, 6, 2, 1, 2);
            boolean one = (sets & 1) == 1 && (sets >> 7 & 1) == 1;
            boolean other = (sets >> 2 & 1) == 1 && (sets >> 5 & 1) == 1;
            Check.due("sets " + sets + ", two rules", x.reached(0, 2), (one ? 2 : 0) + (other ? 4 : 0));
        }
    }

    /** Nodes 0 to 3 reach in machine 1 the state of their number alone. */
    private static TreeMachines fourChildren() {
        TreeMachines x = new TreeMachines();
        for (int leaf = 0; leaf < 3; leaf++) {
            x.node(leaf, 0, 0);
            x.rule(1, leaf, 0, 0, leaf);
        }
        x.node(3, 2, 0);
        x.rule(1, 3, 2, 0, 3);
        return x;
    }

    private static void reachesIfItHasAChild() {
        Check.sentence(TERMS, "(if it has one)");
        TreeMachines x = fourChildren();
        Check.due("a leaf's rule needs no child", x.reached(1, 1), 2);
        for (int child = 0; child < 4; child++) {
            x.node(4, child, 0);
        }
        for (int left = 0; left < 4; left++) {
            x.rule(1, 4, left, 3, 1);
            for (int child = 0; child < 4; child++) {
                Check.due("rule from " + left + ", child " + child, x.reached(1, 4 + child), left == child ? 2 : 0);
            }
            x.drop(1, 4, left, 3, 1);
        }
        x.rule(0, 4, 0, 0, 0);
        Check.due("a child that reaches nothing", x.reached(0, 4), 0);
    }

    private static void acceptedByOneGoal() {
        Check.sentence(TERMS, "It is ACCEPTED if it reaches a goal (at least one)");
        for (int set = 0; set < 16; set++) {
            TreeMachines x = new TreeMachines();
            x.node(2, 0, 0);
            for (int state = 0; state < 4; state++) {
                if ((set >> state & 1) == 1) {
                    x.rule(0, 2, 0, 0, state);
                }
            }
            for (int goals = 0; goals < 16; goals++) {
                for (int state = 0; state < 4; state++) {
                    x.goal(0, state, (goals >> state & 1) == 1);
                }
                boolean accepted = (set & goals) != 0;
                Check.due("place, reached " + set + ", goals " + goals, x.place(0), accepted ? 2 : 0);
                Check.due("terms, reached " + set + ", goals " + goals, x.terms(4, 1), accepted ? 1 : 0);
                Check.due("least, reached " + set + ", goals " + goals, x.least(12), accepted ? 1 : 0);
                Check.due("included, reached " + set + ", goals " + goals, x.included(), !accepted);
            }
        }
    }

    private static void reachesNoneOrMany() {
        Check.sentence(TERMS, "A term may reach none, or many");
        TreeMachines x = Given.full(0);
        x.node(0, 0, 0);
        x.node(3, 0, 0);
        x.node(5, 0, 1);
        for (int n = 0; n < 3; n++) {
            Check.due("all states, node " + n, x.reached(0, n), 15);
            Check.due("no state, node " + n, x.reached(1, n), 0);
        }
        x.rule(1, 5, 0, 0, 0);
        Check.due("no state, as the children reach none", x.reached(1, 2), 0);
        for (int to = 0; to < 4; to++) {
            x.drop(0, 3, to, 0, 0);
            Check.due("fewer and fewer rules", x.reached(0, 1), to < 3 ? 15 : 14);
        }
    }

    private static void placeOfATerm() {
        Check.sentence(TERMS, "The PLACE of a term is 2 if machine 0 accepts it, else 0, and 1 more if machine 1"
                + " accepts it");
        for (int place = 0; place < 4; place++) {
            TreeMachines x = allOfPlace(place);
            int n = Given.plant(x, "5132");
            for (int i = 0; i <= n; i++) {
                Check.due("place(" + i + ")", x.place(i), place);
            }
        }
    }

    private static TreeMachines allOfPlace(int place) {
        TreeMachines x = new TreeMachines();
        if (place >= 2) {
            Given.acceptAll(x, 0);
        }
        if (place % 2 == 1) {
            Given.acceptAll(x, 1);
        }
        return x;
    }

    private static void sortBits() {
        Check.sentence(TERMS, "a term is of the sort s if bit (its place) of s is 1 (bit 0 has the value 1)");
        for (int place = 0; place < 4; place++) {
            TreeMachines x = allOfPlace(place);
            for (int sort = 0; sort < 16; sort++) {
                int bit = sort >> place & 1;
                Check.due("terms(" + sort + ", 1) of place " + place, x.terms(sort, 1), 3 * bit);
                Check.due("terms(" + sort + ", 3) of place " + place, x.terms(sort, 3), 39 * bit);
                Check.due("least(" + sort + ") of place " + place, x.least(sort), bit);
                int due = bit == 1 ? x.nodes() : -2;
                Check.due("witness(" + sort + ") of place " + place, x.witness(sort), due);
            }
            Check.due("included() of place " + place, x.included(), place != 2);
        }
    }

    private static void namedSorts() {
        Check.sentence(TERMS, "sort 4 are those that machine 0 accepts and machine 1 does not, 8 those of both,"
                + " 14 those of any");
        TreeMachines x = new TreeMachines();
        Given.acceptOnly(x, 0, "1");
        Given.acceptOnly(x, 1, "30");
        x.rule(0, 2, 0, 0, 3);
        x.goal(0, 3, true);
        x.rule(1, 2, 0, 0, 3);
        x.goal(1, 3, true);
        dueWitness(x, 4, "1");
        dueWitness(x, 8, "2");
        dueWitness(x, 2, "30");
        dueWitness(x, 14, "1");
        dueWitness(x, 1, "0");
        Check.due("terms(14, 1)", x.terms(14, 1), 2);
        Check.due("terms(14, 2)", x.terms(14, 2), 1);
    }

    private static void dueWitness(TreeMachines x, int sort, String writing) {
        Check.due("least(" + sort + ")", x.least(sort), writing.length());
        Check.due("witness(" + sort + ")", Given.writing(x, x.witness(sort)), writing);
    }

    private static void sizeCountsTwice() {
        Check.sentence(TERMS, "The SIZE of a term is 1 and the sizes of its children (a node that is there twice"
                + " counts twice)");
        TreeMachines x = new TreeMachines();
        x.node(0, 0, 0);
        x.node(5, 0, 0);
        x.node(5, 1, 1);
        x.node(6, 1, 2);
        x.node(3, 3, 0);
        int[] due = {1, 3, 7, 11, 12};
        for (int n = 0; n < due.length; n++) {
            Check.due("size(" + n + ")", x.size(n), due[n]);
        }
        TreeMachines only = new TreeMachines();
        Given.acceptOnly(only, 0, "5500500");
        Check.due("least of 5(5(0, 0), 5(0, 0))", only.least(4), 7);
        Check.due("terms of 5(5(0, 0), 5(0, 0))", only.terms(4, 7), 1);
    }

    private static void lessSizeIsLesser() {
        Check.sentence(TERMS, "Of two terms the one of less size is the LESSER");
        dueLesser("2", "30");
        dueLesser("722", "5030");
        dueLesser("4442", "53030");
        for (String smaller : Given.allWritings(2)) {
            for (String larger : Given.allWritings(3)) {
                dueLesser(smaller, larger);
            }
        }
    }

    /** Machine 0 accepts one term alone, machine 1 the other one alone, and the other way round. */
    private static void dueLesser(String lesser, String other) {
        for (int machine = 0; machine < 2; machine++) {
            TreeMachines x = new TreeMachines();
            Given.acceptOnly(x, machine, lesser);
            Given.acceptOnly(x, 1 - machine, other);
            Check.due("least of " + lesser + " and " + other, x.least(14), lesser.length());
            Check.due("witness of " + lesser + " and " + other, Given.writing(x, x.witness(14)), lesser);
        }
    }

    private static void lesserSymbolIsLesser() {
        Check.sentence(TERMS, "of the same size, the one whose writing has the lesser symbol where they first differ");
        for (int size = 1; size <= 4; size++) {
            List<String> writings = Given.allWritings(size);
            for (int i = 0; i < writings.size(); i++) {
                for (int j = i + 1; j < writings.size(); j++) {
                    dueLesser(writings.get(i), writings.get(j));
                }
            }
        }
        // Left children of other sizes, and a lesser symbol that comes too late.
        dueLesser("50330", "53030");
        dueLesser("53030", "53300");
        dueLesser("73300", "74030");
        dueLesser("7500500", "7505000");
        dueLesser("7505000", "7550000");
        dueLesser("5500600", "5600500");
        dueLesser("567007006700700", "667007006700700");
        neighboursOfSize(5);
        neighboursOfSize(6);
    }

    /** Terms that stand side by side in the order of the writings, as far as a machine can accept one alone. */
    private static void neighboursOfSize(int size) {
        String before = null;
        for (String writing : Given.allWritings(size)) {
            if (Given.subterms(writing).size() > 4) {
                continue;
            }
            if (before != null) {
                dueLesser(before, writing);
            }
            before = writing;
        }
    }

    private static void allTermsCount() {
        Check.sentence(TERMS, "All terms count in what follows, also those that are not among the nodes");
        TreeMachines x = new TreeMachines();
        Given.acceptOnly(x, 0, "7312");
        for (int round = 0; round < 2; round++) {
            Check.due("nodes()", x.nodes(), 7 * round);
            Check.due("included()", x.included(), false);
            Check.due("least(4)", x.least(4), 4);
            Check.due("terms(4, 4)", x.terms(4, 4), 1);
            Check.due("terms(15, 4)", x.terms(15, 4), 186);
            if (round == 0) {
                Given.plant(x, "6031");
                Given.plant(x, "512");
            }
        }
        Check.due("witness(4)", Given.writing(x, x.witness(4)), "7312");
        Check.due("counted once, though it is a node", x.terms(4, 4), 1);
        x.witness(4);
        Check.due("counted once, though it is there twice", x.terms(4, 4), 1);
    }
}
