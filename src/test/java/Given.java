import java.util.ArrayList;
import java.util.List;

/** Rules, machines and wrong numbers that many tests begin with. */
final class Given {
    private Given() {
    }

    /** Numbers that are not 0 to below end: next to it, far away, and those that some bits alone would take for one. */
    static int[] outside(int end) {
        return new int[] {-1, end, end + 1, 2 * end, -end, 32, 256, 65537, -65536, Integer.MAX_VALUE,
            Integer.MIN_VALUE, Integer.MIN_VALUE + 1};
    }

    static int childrenOf(int symbol) {
        return symbol < 3 ? 0 : symbol < 5 ? 1 : 2;
    }

    /** All 236 rules that one machine can have, as symbol, left, right and to. */
    static List<int[]> allRules() {
        List<int[]> rules = new ArrayList<>();
        for (int symbol = 0; symbol < 8; symbol++) {
            for (int left = 0; left < (childrenOf(symbol) > 0 ? 4 : 1); left++) {
                for (int right = 0; right < (childrenOf(symbol) > 1 ? 4 : 1); right++) {
                    for (int to = 0; to < 4; to++) {
                        rules.add(new int[] {symbol, left, right, to});
                    }
                }
            }
        }
        return rules;
    }

    static boolean addRule(TreeMachines x, int machine, int[] r) {
        return x.rule(machine, r[0], r[1], r[2], r[3]);
    }

    static boolean dropRule(TreeMachines x, int machine, int[] r) {
        return x.drop(machine, r[0], r[1], r[2], r[3]);
    }

    static boolean hasRule(TreeMachines x, int machine, int[] r) {
        return x.isRule(machine, r[0], r[1], r[2], r[3]);
    }

    /** An object whose machine has every rule: 236 calls. */
    static TreeMachines full(int machine) {
        TreeMachines x = new TreeMachines();
        for (int[] r : allRules()) {
            addRule(x, machine, r);
        }
        return x;
    }

    /** Whether all rules that the machine can have are there, or none is: 236 calls. */
    static void dueRules(TreeMachines x, int machine, boolean there) {
        for (int[] r : allRules()) {
            Check.due(told("isRule", machine, r), hasRule(x, machine, r), there);
        }
    }

    static String told(String call, int machine, int[] r) {
        return call + "(" + machine + ", " + r[0] + ", " + r[1] + ", " + r[2] + ", " + r[3] + ")";
    }

    /** Makes a machine accept every term: 9 calls on a machine that has no rules. */
    static void acceptAll(TreeMachines x, int machine) {
        for (int symbol = 0; symbol < 8; symbol++) {
            x.rule(machine, symbol, 0, 0, 0);
        }
        x.goal(machine, 0, true);
    }

    /** Makes a machine without rules accept one term alone; it has at most four different subterms. */
    static void acceptOnly(TreeMachines x, int machine, String writing) {
        List<String> states = subterms(writing);
        for (String term : states) {
            String left = childrenOf(term.charAt(0) - '0') > 0 ? term.substring(1, endOf(term, 1)) : "";
            String right = term.substring(1 + left.length());
            x.rule(machine, term.charAt(0) - '0', Math.max(0, states.indexOf(left)),
                    Math.max(0, states.indexOf(right)), states.indexOf(term));
        }
        x.goal(machine, states.indexOf(writing), true);
    }

    /** The different subterms of a term, each after those inside it. */
    static List<String> subterms(String writing) {
        List<String> terms = new ArrayList<>();
        for (int i = writing.length() - 1; i >= 0; i--) {
            String term = writing.substring(i, endOf(writing, i));
            if (!terms.contains(term)) {
                terms.add(term);
            }
        }
        return terms;
    }

    private static int endOf(String writing, int start) {
        int end = start + 1;
        for (int i = 0; i < childrenOf(writing.charAt(start) - '0'); i++) {
            end = endOf(writing, end);
        }
        return end;
    }

    /** Makes the nodes of a term, from the last symbol of its writing; answers its number. */
    static int plant(TreeMachines x, String writing) {
        List<Integer> open = new ArrayList<>();
        for (int i = writing.length() - 1; i >= 0; i--) {
            int symbol = writing.charAt(i) - '0';
            int left = childrenOf(symbol) > 0 ? open.remove(open.size() - 1) : 0;
            int right = childrenOf(symbol) > 1 ? open.remove(open.size() - 1) : 0;
            open.add(x.node(symbol, left, right));
        }
        return open.get(0);
    }

    static void leaves(TreeMachines x, int count) {
        for (int i = 0; i < count; i++) {
            x.node(0, 0, 0);
        }
    }

    /** The writing of a node's term, told by part. */
    static String writing(TreeMachines x, int n) {
        return n < 0 ? "" : x.part(n, 0) + writing(x, x.part(n, 1)) + writing(x, x.part(n, 2));
    }

    /** Every writing of a size, in their order. */
    static List<String> allWritings(int size) {
        List<String> writings = new ArrayList<>();
        for (int symbol = 0; symbol < 8; symbol++) {
            if (childrenOf(symbol) == 0 && size == 1) {
                writings.add("" + symbol);
            }
            if (childrenOf(symbol) == 1 && size > 1) {
                for (String child : allWritings(size - 1)) {
                    writings.add(symbol + child);
                }
            }
            for (int leftSize = 1; childrenOf(symbol) == 2 && leftSize < size - 1; leftSize++) {
                for (String left : allWritings(leftSize)) {
                    for (String right : allWritings(size - 1 - leftSize)) {
                        writings.add(symbol + left + right);
                    }
                }
            }
        }
        writings.sort(null);
        return writings;
    }
}
