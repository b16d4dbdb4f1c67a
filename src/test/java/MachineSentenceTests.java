import java.util.List;

/** Each sentence of promises 1 to 6 that names a bound or a special case has a test of its own. */
public final class MachineSentenceTests {
    public static void main(String[] args) {
        newHasNoRules();
        newHasNoGoals();
        newHasNoNodes();
        newIsAlone();
        ruleIsThereFromNowOn();
        ruleWasNotThereBefore();
        ruleOfWrongMachine();
        ruleOfWrongSymbol();
        ruleToWrongState();
        ruleFromWrongState();
        dropIsNotThereAnyMore();
        dropIsSeenByAll();
        dropWasThereBefore();
        dropOutOfRange();
        isRuleTellsWhatIsThere();
        isRuleOutOfRange();
        goalFromNowOn();
        goalChangedSomething();
        goalOfWrongMachine();
        goalOfWrongState();
        clearTakesAllRules();
        clearIsSeenByAll();
        clearTakesAllGoals();
        clearOfAnEmptyMachine();
        clearOfWrongMachine();
        Check.end();
    }

    private static void newHasNoRules() {
        Check.sentence("1", "No rules");
        TreeMachines x = new TreeMachines();
        Given.dueRules(x, 0, false);
        Given.dueRules(x, 1, false);
    }

    private static void newHasNoGoals() {
        Check.sentence("1", "no goals");
        TreeMachines x = new TreeMachines();
        for (int i = 0; i < 8; i++) {
            Check.due("goal(" + (i >> 2) + ", " + (i & 3) + ", false)", x.goal(i >> 2, i & 3, false), false);
        }
        TreeMachines reached = new TreeMachines();
        reached.node(0, 0, 0);
        for (int i = 0; i < 8; i++) {
            reached.rule(i >> 2, 0, 0, 0, i & 3);
        }
        Check.due("place of what reaches all states", reached.place(0), 0);
        Check.due("least(14)", reached.least(14), 0);
        Check.due("least(1)", reached.least(1), 1);
        Check.due("included()", reached.included(), true);
    }

    private static void newHasNoNodes() {
        Check.sentence("1", "no nodes");
        TreeMachines x = new TreeMachines();
        Check.due("nodes()", x.nodes(), 0);
        Check.due("part(0, 0)", x.part(0, 0), -2);
        Check.due("reached(0, 0)", x.reached(0, 0), -1);
        Check.due("place(0)", x.place(0), -1);
        Check.due("size(0)", x.size(0), -1);
        Check.due("node(3, 0, 0)", x.node(3, 0, 0), -2);
        Check.due("node(5, 0, 0)", x.node(5, 0, 0), -2);
        Check.due("node(0, 0, 0)", x.node(0, 0, 0), 0);
    }

    private static void newIsAlone() {
        Check.sentence("1", "No rules, no goals, no nodes");
        TreeMachines other = new TreeMachines();
        Given.acceptAll(other, 0);
        Given.acceptAll(other, 1);
        other.witness(8);
        TreeMachines x = new TreeMachines();
        Check.due("nodes() beside another object", x.nodes(), 0);
        Check.due("isRule beside another object", x.isRule(0, 0, 0, 0, 0), false);
        Check.due("least(14) beside another object", x.least(14), 0);
        x.node(2, 0, 0);
        x.rule(1, 2, 0, 0, 3);
        Check.due("nodes() of the other object", other.nodes(), 1);
        Check.due("part(0, 0) of the other object", other.part(0, 0), 0);
        Check.due("isRule of the other object", other.isRule(1, 2, 0, 0, 3), false);
        Check.due("terms(8, 12) of the other object", other.terms(8, 12), 710383812);
    }

    private static void ruleIsThereFromNowOn() {
        Check.sentence("2", "A rule of the machine is there from now on");
        for (int machine = 0; machine < 2; machine++) {
            TreeMachines x = Given.full(machine);
            Given.dueRules(x, machine, true);
            Check.due("the other machine's first", x.isRule(1 - machine, 0, 0, 0, 0), false);
            Check.due("the other machine's last", x.isRule(1 - machine, 7, 3, 3, 3), false);
        }
        ruleIsSeenByAll();
    }

    /** Nodes that were made before the rule, and all questions, see it too. */
    private static void ruleIsSeenByAll() {
        TreeMachines x = new TreeMachines();
        x.goal(1, 2, true);
        int n = Given.plant(x, "6031");
        String[] order = {"3", "6", "0", "1"};
        int[][] rules = {{3, 1, 0, 1}, {6, 0, 1, 2}, {0, 0, 0, 0}, {1, 0, 0, 1}};
        for (int i = 0; i < rules.length; i++) {
            Check.due("least(2) before the rule of " + order[i], x.least(2), 0);
            Check.due("place before the rule of " + order[i], x.place(n), 0);
            Check.due("terms(2, 4) before the rule of " + order[i], x.terms(2, 4), 0);
            Given.addRule(x, 1, rules[i]);
        }
        Check.due("least(2)", x.least(2), 3);
        Check.due("place", x.place(n), 1);
        Check.due("reached", x.reached(1, n), 4);
        Check.due("terms(2, 4)", x.terms(2, 4), 1);
        Check.due("witness(2)", Given.writing(x, x.witness(2)), "601");
    }

    private static void ruleWasNotThereBefore() {
        Check.sentence("2", "whether it was not there before");
        for (int machine = 0; machine < 2; machine++) {
            TreeMachines x = new TreeMachines();
            for (int[] r : Given.allRules()) {
                Check.due(Given.told("rule", machine, r), Given.addRule(x, machine, r), true);
                Check.due(Given.told("again rule", machine, r), Given.addRule(x, machine, r), false);
            }
            Check.due("the other machine's", x.rule(1 - machine, 7, 3, 3, 3), true);
            x.drop(machine, 5, 1, 2, 3);
            Check.due("after drop", x.rule(machine, 5, 1, 2, 3), true);
            x.drop(machine, 5, 1, 2, 4);
            Check.due("after a refused drop", x.rule(machine, 5, 1, 2, 3), false);
            x.clear(machine);
            Check.due("after clear", x.rule(machine, 5, 1, 2, 3), true);
            x.clear(1 - machine);
            Check.due("after clear of the other machine", x.rule(machine, 5, 1, 2, 3), false);
        }
    }

    private static void ruleOfWrongMachine() {
        Check.sentence("2", "False also if machine is not 0 .. 1");
        TreeMachines x = new TreeMachines();
        for (int wrong : Given.outside(2)) {
            Check.due("rule(" + wrong + ", 5, 0, 0, 0)", x.rule(wrong, 5, 0, 0, 0), false);
        }
        Given.dueRules(x, 0, false);
        Given.dueRules(x, 1, false);
    }

    private static void ruleOfWrongSymbol() {
        Check.sentence("2", "symbol not 0 .. 7");
        TreeMachines x = new TreeMachines();
        for (int wrong : Given.outside(8)) {
            Check.due("rule(0, " + wrong + ", 0, 0, 0)", x.rule(0, wrong, 0, 0, 0), false);
            Check.due("rule(1, " + wrong + ", 1, 2, 3)", x.rule(1, wrong, 1, 2, 3), false);
        }
        Given.dueRules(x, 0, false);
        Given.dueRules(x, 1, false);
    }

    private static void ruleToWrongState() {
        Check.sentence("2", "or to .. is not 0 .. 3");
        for (int symbol = 0; symbol < 8; symbol++) {
            TreeMachines x = new TreeMachines();
            for (int wrong : Given.outside(4)) {
                Check.due("rule(0, " + symbol + ", 1, 1, " + wrong + ")", x.rule(0, symbol, 1, 1, wrong), false);
                Check.due("rule(1, " + symbol + ", 3, 3, " + wrong + ")", x.rule(1, symbol, 3, 3, wrong), false);
            }
            Given.dueRules(x, 0, false);
            Given.dueRules(x, 1, false);
        }
    }

    private static void ruleFromWrongState() {
        Check.sentence("2", "a state that is not taken as 0 is not 0 .. 3");
        for (int symbol = 3; symbol < 8; symbol++) {
            TreeMachines x = new TreeMachines();
            for (int wrong : Given.outside(4)) {
                Check.due("rule(0, " + symbol + ", " + wrong + ", 0, 0)", x.rule(0, symbol, wrong, 0, 0), false);
                if (symbol >= 5) {
                    Check.due("rule(1, " + symbol + ", 0, " + wrong + ", 3)", x.rule(1, symbol, 0, wrong, 3), false);
                }
            }
            Given.dueRules(x, 0, false);
            Given.dueRules(x, 1, false);
        }
    }

    private static void dropIsNotThereAnyMore() {
        Check.sentence("3", "A rule of the machine is not there any more");
        for (int machine = 0; machine < 2; machine++) {
            List<int[]> rules = Given.allRules();
            for (int i = 0; i < rules.size(); i += 9) {
                TreeMachines x = Given.full(machine);
                Given.dropRule(x, machine, rules.get(i));
                for (int j = 0; j < rules.size(); j++) {
                    Check.due("after drop of " + i + ", " + Given.told("isRule", machine, rules.get(j)),
                            Given.hasRule(x, machine, rules.get(j)), i != j);
                }
            }
        }
    }

    private static void dropIsSeenByAll() {
        Check.sentence("3", "A rule of the machine is not there any more, and all questions see it");
        int[][] rules = {{3, 1, 0, 2}, {7, 0, 2, 3}, {0, 0, 0, 0}, {1, 0, 0, 1}};
        for (int machine = 0; machine < 2; machine++) {
            for (int[] dropped : rules) {
                TreeMachines x = new TreeMachines();
                Given.acceptAll(x, 1 - machine);
                for (int[] r : rules) {
                    Given.addRule(x, machine, r);
                }
                x.goal(machine, 3, true);
                Check.due("the term that is accepted", Given.writing(x, x.witness(8)), "7031");
                dueAlone(x, machine, true);
                Given.dropRule(x, machine, dropped);
                dueAlone(x, machine, false);
                Given.addRule(x, machine, dropped);
                dueAlone(x, machine, true);
            }
        }
    }

    /** Whether the term of node 3, of size 4, is accepted by the machine beside the one that accepts all. */
    private static void dueAlone(TreeMachines x, int machine, boolean accepted) {
        Check.due("reached(" + machine + ", 3)", x.reached(machine, 3), accepted ? 8 : 0);
        Check.due("place(3)", x.place(3), accepted ? 3 : 1 + machine);
        Check.due("least(8)", x.least(8), accepted ? 4 : 0);
        Check.due("terms(8, 4)", x.terms(8, 4), accepted ? 1 : 0);
        Check.due("terms(6, 4)", x.terms(6, 4), accepted ? 185 : 186);
        Check.due("included()", x.included(), machine == 0);
        int next = x.nodes();
        Check.due("witness(8)", x.witness(8), accepted ? next + 3 : -2);
    }

    private static void dropWasThereBefore() {
        Check.sentence("3", "whether it was there before");
        for (int machine = 0; machine < 2; machine++) {
            TreeMachines x = new TreeMachines();
            Check.due("first of all", x.drop(machine, 5, 1, 2, 3), false);
            x.rule(machine, 5, 1, 2, 3);
            Check.due("the other machine's", x.drop(1 - machine, 5, 1, 2, 3), false);
            Check.due("another symbol", x.drop(machine, 6, 1, 2, 3), false);
            Check.due("another left", x.drop(machine, 5, 2, 2, 3), false);
            Check.due("another right", x.drop(machine, 5, 1, 1, 3), false);
            Check.due("another to", x.drop(machine, 5, 1, 2, 2), false);
            Check.due("what is there", x.drop(machine, 5, 1, 2, 3), true);
            Check.due("once more", x.drop(machine, 5, 1, 2, 3), false);
            x.rule(machine, 5, 1, 2, 3);
            x.clear(machine);
            Check.due("after clear", x.drop(machine, 5, 1, 2, 3), false);
        }
        TreeMachines all = Given.full(1);
        for (int[] r : Given.allRules()) {
            Check.due(Given.told("drop", 1, r), Given.dropRule(all, 1, r), true);
        }
    }

    private static void dropOutOfRange() {
        Check.sentence("3", "False also if something is out of range as above");
        for (int machine = 0; machine < 2; machine++) {
            TreeMachines x = Given.full(machine);
            for (int wrong : Given.outside(2)) {
                Check.due("drop(" + wrong + ", 5, 1, 2, 3)", x.drop(wrong, 5, 1, 2, 3), false);
            }
            for (int wrong : Given.outside(8)) {
                Check.due("drop(" + machine + ", " + wrong + ", 1, 2, 3)", x.drop(machine, wrong, 1, 2, 3), false);
            }
            Given.dueRules(x, machine, true);
        }
        for (int symbol = 0; symbol < 8; symbol++) {
            TreeMachines x = Given.full(0);
            for (int wrong : Given.outside(4)) {
                Check.due("drop(0, " + symbol + ", 1, 1, " + wrong + ")", x.drop(0, symbol, 1, 1, wrong), false);
                if (symbol >= 3) {
                    Check.due("drop(0, " + symbol + ", " + wrong + ", 0, 0)", x.drop(0, symbol, wrong, 0, 0), false);
                }
            }
            Given.dueRules(x, 0, true);
        }
        for (int symbol = 5; symbol < 8; symbol++) {
            TreeMachines x = Given.full(1);
            for (int wrong : Given.outside(4)) {
                Check.due("drop(1, " + symbol + ", 0, " + wrong + ", 3)", x.drop(1, symbol, 0, wrong, 3), false);
            }
            Given.dueRules(x, 1, true);
        }
    }

    private static void isRuleTellsWhatIsThere() {
        Check.sentence("4", "Whether it is there");
        for (int machine = 0; machine < 2; machine++) {
            List<int[]> rules = Given.allRules();
            for (int i = 0; i < rules.size(); i++) {
                TreeMachines x = new TreeMachines();
                Given.addRule(x, machine, rules.get(i));
                for (int j = 0; j < rules.size(); j++) {
                    Check.due("after rule " + i + ", " + Given.told("isRule", machine, rules.get(j)),
                            Given.hasRule(x, machine, rules.get(j)), i == j);
                    Check.due("after rule " + i + ", " + Given.told("isRule", 1 - machine, rules.get(j)),
                            Given.hasRule(x, 1 - machine, rules.get(j)), false);
                }
            }
        }
    }

    private static void isRuleOutOfRange() {
        Check.sentence("4", "false if something is out of range as above");
        for (int machine = 0; machine < 2; machine++) {
            TreeMachines x = Given.full(machine);
            for (int wrong : Given.outside(2)) {
                Check.due("isRule(" + wrong + ", 5, 1, 2, 3)", x.isRule(wrong, 5, 1, 2, 3), false);
            }
            for (int wrong : Given.outside(8)) {
                Check.due("isRule(" + machine + ", " + wrong + ", 0, 0, 0)", x.isRule(machine, wrong, 0, 0, 0), false);
            }
            for (int wrong : Given.outside(4)) {
                for (int symbol = 0; symbol < 8; symbol++) {
                    Check.due("isRule of symbol " + symbol + " to " + wrong, x.isRule(machine, symbol, 1, 1, wrong),
                            false);
                    Check.due("isRule of symbol " + symbol + ", left " + wrong,
                            x.isRule(machine, symbol, wrong, 1, 1), symbol < 3);
                }
            }
        }
        TreeMachines x = Given.full(0);
        for (int wrong : Given.outside(4)) {
            for (int symbol = 0; symbol < 8; symbol++) {
                Check.due("isRule of symbol " + symbol + ", right " + wrong, x.isRule(0, symbol, 1, wrong, 1),
                        symbol < 5);
            }
        }
    }

    private static void goalFromNowOn() {
        Check.sentence("5", "A state is a goal from now on (on), or is none any more");
        for (int machine = 0; machine < 2; machine++) {
            for (int state = 0; state < 4; state++) {
                TreeMachines x = new TreeMachines();
                x.node(1, 0, 0);
                x.rule(machine, 1, 0, 0, state);
                x.goal(machine, state ^ 1, true);
                dueAccepted(x, machine, false);
                x.goal(machine, state, true);
                dueAccepted(x, machine, true);
                x.goal(machine, state, true);
                dueAccepted(x, machine, true);
                x.goal(machine, state ^ 1, false);
                dueAccepted(x, machine, true);
                x.goal(machine, state, false);
                dueAccepted(x, machine, false);
                x.goal(machine, state, false);
                dueAccepted(x, machine, false);
            }
        }
    }

    /** Whether leaf 1, which is node 0, is what the machine accepts: all questions see a change of the goals. */
    private static void dueAccepted(TreeMachines x, int machine, boolean accepted) {
        int sort = machine == 0 ? 4 : 2;
        Check.due("place(0), machine " + machine, x.place(0), accepted ? 2 - machine : 0);
        Check.due("least, machine " + machine, x.least(sort), accepted ? 1 : 0);
        Check.due("terms, machine " + machine, x.terms(sort, 1), accepted ? 1 : 0);
        Check.due("terms of neither, machine " + machine, x.terms(1, 1), accepted ? 2 : 3);
        Check.due("included, machine " + machine, x.included(), !accepted || machine == 1);
        int next = x.nodes();
        Check.due("witness, machine " + machine, x.witness(sort), accepted ? next : -2);
    }

    private static void goalChangedSomething() {
        Check.sentence("5", "whether that changed something");
        TreeMachines x = new TreeMachines();
        for (int i = 0; i < 8; i++) {
            Check.due("off before on, " + i, x.goal(i >> 2, i & 3, false), false);
            Check.due("on, " + i, x.goal(i >> 2, i & 3, true), true);
            Check.due("on again, " + i, x.goal(i >> 2, i & 3, true), false);
        }
        for (int i = 0; i < 8; i++) {
            Check.due("off, " + i, x.goal(i >> 2, i & 3, false), true);
            Check.due("off again, " + i, x.goal(i >> 2, i & 3, false), false);
            Check.due("on anew, " + i, x.goal(i >> 2, i & 3, true), true);
        }
    }

    private static void goalOfWrongMachine() {
        Check.sentence("5", "false also if machine is not 0 .. 1");
        dueNoGoalByWrong(2, true);
    }

    private static void goalOfWrongState() {
        Check.sentence("5", "or state not 0 .. 3");
        dueNoGoalByWrong(4, false);
    }

    private static void dueNoGoalByWrong(int end, boolean asMachine) {
        TreeMachines none = new TreeMachines();
        TreeMachines all = new TreeMachines();
        for (int i = 0; i < 8; i++) {
            all.goal(i >> 2, i & 3, true);
        }
        for (int wrong : Given.outside(end)) {
            for (int right = 0; right < (asMachine ? 4 : 2); right++) {
                int machine = asMachine ? wrong : right;
                int state = asMachine ? right : wrong;
                Check.due("goal(" + machine + ", " + state + ", true)", none.goal(machine, state, true), false);
                Check.due("goal(" + machine + ", " + state + ", false)", all.goal(machine, state, false), false);
            }
        }
        for (int i = 0; i < 8; i++) {
            Check.due("no goal is there, " + i, none.goal(i >> 2, i & 3, false), false);
            Check.due("no goal is gone, " + i, all.goal(i >> 2, i & 3, true), false);
        }
    }

    private static void clearTakesAllRules() {
        Check.sentence("6", "All rules .. of the machine are taken away");
        for (int machine = 0; machine < 2; machine++) {
            TreeMachines x = Given.full(machine);
            x.rule(1 - machine, 0, 0, 0, 3);
            x.node(0, 0, 0);
            Check.due("before", x.reached(machine, 0), 15);
            Check.due("clear(" + machine + ")", x.clear(machine), true);
            Given.dueRules(x, machine, false);
            Check.due("after", x.reached(machine, 0), 0);
            Check.due("the other machine's rule stays", x.isRule(1 - machine, 0, 0, 0, 3), true);
            Check.due("the other machine reaches its state", x.reached(1 - machine, 0), 8);
            Check.due("the node stays", x.nodes(), 1);
            x.rule(machine, 0, 0, 0, 2);
            Check.due("a new rule stands alone", x.reached(machine, 0), 4);
        }
    }

    private static void clearIsSeenByAll() {
        Check.sentence("6", "All rules .. of the machine are taken away, and all questions see it");
        int[][] rules = {{3, 1, 0, 2}, {7, 0, 2, 3}, {0, 0, 0, 0}, {1, 0, 0, 1}};
        for (int machine = 0; machine < 2; machine++) {
            TreeMachines x = new TreeMachines();
            Given.acceptAll(x, 1 - machine);
            for (int[] r : rules) {
                Given.addRule(x, machine, r);
            }
            x.goal(machine, 3, true);
            x.witness(8);
            dueAlone(x, machine, true);
            x.clear(machine);
            dueAlone(x, machine, false);
            // Only with its goal back would rules that are still there be seen.
            x.goal(machine, 3, true);
            dueAlone(x, machine, false);
            for (int[] r : rules) {
                dueAlone(x, machine, false);
                Given.addRule(x, machine, r);
            }
            dueAlone(x, machine, true);
        }
    }

    private static void clearTakesAllGoals() {
        Check.sentence("6", "All .. goals of the machine are taken away");
        for (int machine = 0; machine < 2; machine++) {
            TreeMachines x = new TreeMachines();
            Given.acceptAll(x, 0);
            Given.acceptAll(x, 1);
            for (int state = 1; state < 4; state++) {
                x.goal(machine, state, true);
            }
            Check.due("terms(8, 5) before", x.terms(8, 5), 1182);
            x.clear(machine);
            Check.due("terms(8, 5) after", x.terms(8, 5), 0);
            Check.due("the other machine's terms", x.terms(machine == 0 ? 2 : 4, 5), 1182);
            for (int symbol = 0; symbol < 8; symbol++) {
                x.rule(machine, symbol, 0, 0, 0);
            }
            Check.due("rules alone are no goals", x.least(8), 0);
            for (int state = 0; state < 4; state++) {
                Check.due("goal " + state + " is gone", x.goal(machine, state, false), false);
            }
            Check.due("the other machine's goal stays", x.goal(1 - machine, 0, true), false);
        }
    }

    private static void clearOfAnEmptyMachine() {
        Check.sentence("6", "false if it is not 0 .. 1, and so true for 0 and 1");
        TreeMachines x = new TreeMachines();
        Check.due("clear(0)", x.clear(0), true);
        Check.due("clear(1)", x.clear(1), true);
        x.rule(1, 0, 0, 0, 0);
        Check.due("clear(1) with a rule", x.clear(1), true);
        Check.due("clear(1) again", x.clear(1), true);
    }

    private static void clearOfWrongMachine() {
        Check.sentence("6", "false if it is not 0 .. 1");
        TreeMachines x = new TreeMachines();
        Given.acceptAll(x, 0);
        Given.acceptAll(x, 1);
        for (int wrong : Given.outside(2)) {
            Check.due("clear(" + wrong + ")", x.clear(wrong), false);
            Check.due("all are still in both", x.terms(8, 7), x.terms(15, 7));
        }
        for (int symbol = 0; symbol < 8; symbol++) {
            Check.due("a rule of machine 0", x.isRule(0, symbol, 0, 0, 0), true);
            Check.due("a rule of machine 1", x.isRule(1, symbol, 0, 0, 0), true);
        }
    }
}
