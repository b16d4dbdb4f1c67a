import java.util.List;
import java.util.Random;

/** Holds the class's answers against those of Reference: runs of calls, and terms told one by one. */
public final class ReferenceTests {
    private static final int TOLD_SIZE = 6;
    private static final int[] EXTREMES = {16, 200, 1000, -1000, Integer.MAX_VALUE, Integer.MIN_VALUE, 1 << 16};

    public static void main(String[] args) {
        for (int seed = 0; seed < 120; seed++) {
            mixedRun(seed, Run.MOST_CALLS);
        }
        // Of calls beyond the 512th nothing is promised, but they must not throw either.
        for (int seed = 1000; seed < 1005; seed++) {
            mixedRun(seed, 3 * Run.MOST_CALLS);
        }
        for (int seed = 2000; seed < 3500; seed++) {
            askAfterRules(seed);
        }
        for (int seed = 5000; seed < 8000; seed++) {
            askOnLargeTerms(seed);
        }
        for (int seed = 9000; seed < 10500; seed++) {
            askAfterChanges(seed);
        }
        for (int seed = 11000; seed < 11100; seed++) {
            witnessesBetweenChanges(seed);
        }
        // Runs where an order of writings that was not worked out wholly anew was seen to go wrong.
        for (int seed : new int[] {38189, 429835, 200221967, 200521071, 300298766, 500496746}) {
            witnessesBetweenChanges(seed);
        }
        for (int seed = 4000; seed < 4150; seed++) {
            termsToldOneByOne(seed);
        }
        largeMachines();
        everyCoupleOfSets();
        Check.end();
    }

    /** All calls in any order, some with arguments that are out of range. */
    private static void mixedRun(int seed, int calls) {
        Random random = new Random(seed);
        Run run = new Run("run " + seed);
        int rulesFirst = random.nextInt(50);
        for (int i = 0; i < calls; i++) {
            String name = i < rulesFirst ? "rule" : Call.NAMES[random.nextInt(Call.NAMES.length)];
            if (name.equals("clear") && random.nextInt(4) != 0) {
                name = "goal";
            }
            run.call(anyCall(name, random, run.reference().nodes()));
        }
    }

    private static Call anyCall(String name, Random random, int nodes) {
        int machine = number(random, 2);
        switch (name) {
            case "rule":
            case "drop":
            case "isRule":
                return new Call(name, machine, number(random, 8), number(random, 4), number(random, 4),
                        number(random, 4));
            case "goal":
                return new Call(name, machine, number(random, 4), random.nextInt(2));
            case "clear":
                return new Call(name, machine);
            case "node":
                return new Call(name, number(random, 8), number(random, nodes), number(random, nodes));
            case "part":
                return new Call(name, number(random, nodes), number(random, 3));
            case "reached":
                return new Call(name, machine, number(random, nodes));
            case "place":
            case "size":
                return new Call(name, number(random, nodes));
            case "terms":
                return new Call(name, number(random, 16), number(random, 13));
            case "nodes":
            case "included":
                return new Call(name);
            default:
                return new Call(name, number(random, 16));
        }
    }

    /** Mostly 0 to below end, now and then the numbers just outside or far away. */
    private static int number(Random random, int end) {
        switch (random.nextInt(40)) {
            case 0:
                return EXTREMES[random.nextInt(EXTREMES.length)];
            case 1:
                return end;
            case 2:
                return -1;
            default:
                return end == 0 ? 0 : random.nextInt(end);
        }
    }

    private static void giveRules(Random random, Run run, int rules) {
        int used = 1 + random.nextInt(255);
        for (int i = 0; i < rules; i++) {
            int symbol = random.nextInt(8);
            if ((used >> symbol & 1) == 1 || i < 4) {
                run.call("rule", random.nextInt(2), i < 4 ? random.nextInt(3) : symbol, random.nextInt(4),
                        random.nextInt(4), random.nextInt(4));
            }
        }
        for (int machine = 0; machine < 2; machine++) {
            run.call("goal", machine, random.nextInt(4), 1);
        }
    }

    /** Machines of few to many rules, and then the questions on the sets alone. */
    private static void askAfterRules(int seed) {
        Random random = new Random(seed);
        Run run = new Run("machines " + seed);
        giveRules(random, run, 8 + random.nextInt(30));
        askQuestions(random, run);
    }

    /** What was worked out for other rules before must not be seen any more. */
    private static void askAfterChanges(int seed) {
        Random random = new Random(seed);
        Run run = new Run("changed machines " + seed);
        giveRules(random, run, 10 + random.nextInt(30));
        run.call("least", 14);
        run.call("terms", 15, 12);
        run.call("clear", 0);
        if (random.nextBoolean()) {
            run.call("clear", 1);
        }
        giveRules(random, run, 8 + random.nextInt(30));
        askQuestions(random, run);
    }

    /** Rules come and go; after each round the least term of each place is made. */
    private static void witnessesBetweenChanges(int seed) {
        Random random = new Random(seed);
        Run run = new Run("changing machines " + seed);
        for (int round = 0; round < 6; round++) {
            int changes = 4 + random.nextInt(25);
            for (int i = 0; i < changes; i++) {
                int machine = random.nextInt(2);
                int symbol = random.nextInt(i < 3 ? 3 : 8);
                int left = random.nextInt(4);
                int right = random.nextInt(4);
                int to = random.nextInt(4);
                boolean drop = round > 0 && random.nextInt(3) == 0;
                run.call(drop ? "drop" : "rule", machine, symbol, left, right, to);
            }
            int state = random.nextInt(4);
            run.call("goal", random.nextInt(2), state, random.nextInt(3) > 0 ? 1 : 0);
            for (int place = 0; place < 4; place++) {
                int before = run.reference().nodes();
                run.call("witness", 1 << place);
                for (int n = before; n < run.reference().nodes(); n++) {
                    run.call("part", n, 0);
                }
            }
        }
    }

    /** Machines that go through their states one by one, so that the least terms are often large, or too large. */
    private static void askOnLargeTerms(int seed) {
        Random random = new Random(seed);
        Run run = new Run("machines " + seed);
        for (int machine = 0; machine < 2; machine++) {
            run.call("rule", machine, 0, 0, 0, 0);
            if (random.nextInt(4) == 0) {
                run.call("rule", machine, 1, 0, 0, random.nextInt(2));
            }
            for (int symbol = 3; symbol < 8; symbol++) {
                giveSteps(random, run, machine, symbol);
            }
            run.call("goal", machine, 1 + random.nextInt(3), 1);
        }
        askQuestions(random, run);
    }

    /** Rules of a symbol that keep each state, go on to the next one, go round, or only start anew behind the last. */
    private static void giveSteps(Random random, Run run, int machine, int symbol) {
        int kind = random.nextInt(5);
        for (int state = 0; state < 4 && kind < 4; state++) {
            int to = kind == 0 ? state : (state + 1) % 4;
            if (kind == 1 && state == 3 || kind == 2 && state < 3) {
                continue;
            }
            run.call("rule", machine, symbol, state, state, to);
            if (random.nextInt(5) == 0) {
                run.call("rule", machine, symbol, state, random.nextInt(4), to);
            }
        }
        if (random.nextInt(7) == 0) {
            run.call("rule", machine, symbol, random.nextInt(4), random.nextInt(4), random.nextInt(4));
        }
    }

    private static void askQuestions(Random random, Run run) {
        for (int place = 0; place < 4; place++) {
            run.call("least", 1 << place);
            run.call("witness", 1 << place);
        }
        run.call("included");
        run.call("terms", random.nextInt(16), 12);
        run.call("terms", random.nextInt(16), 1 + random.nextInt(12));
        run.compareNodes();
    }

    /** Answers on small terms, held against a list of all of them. */
    private static void termsToldOneByOne(int seed) {
        Random random = new Random(seed);
        Run run = new Run("told " + seed);
        giveRules(random, run, 6 + random.nextInt(40));
        List<Reference.Told> all = run.reference().allTerms(TOLD_SIZE);
        for (int sort = 0; sort < 16; sort++) {
            int[] counts = new int[TOLD_SIZE + 1];
            String least = null;
            for (Reference.Told told : all) {
                if ((sort >> told.place & 1) == 1) {
                    counts[told.writing.length()]++;
                    least = least == null ? told.writing : least;
                }
            }
            for (int size = 1; size <= TOLD_SIZE; size++) {
                run.answer(counts[size], "terms", sort, size);
            }
            if (least != null) {
                run.answer(least.length(), "least", sort);
                run.answerWitness(sort, least);
            }
        }
    }

    /** Many rules, so that many sets of states are reached. */
    private static void largeMachines() {
        for (int rules = 60; rules <= 180; rules += 30) {
            Random random = new Random(rules);
            Run run = new Run("large " + rules);
            giveRules(random, run, rules);
            for (int sort = 0; sort < 16; sort += 5) {
                run.call("least", sort);
                run.call("witness", sort);
                run.call("terms", sort, 9);
            }
            run.compareNodes();
        }
    }

    /**
     * Machines where some term reaches each set of states in machine 0 with each one in machine 1, none and all among
     * them: 5 joins the sets of two children, 3 turns those of machine 0 round, and 4 those of machine 1.
     */
    private static void everyCoupleOfSets() {
        Run run = new Run("every couple of sets");
        for (int machine = 0; machine < 2; machine++) {
            for (int i = 0; i < 16; i++) {
                run.call("rule", machine, 5, i >> 2, i & 3, i >> 2);
                run.call("rule", machine, 5, i >> 2, i & 3, i & 3);
            }
            for (int state = 0; state < 4; state++) {
                run.call("rule", machine, 3 + machine, state, 0, (state + 1) % 4);
                run.call("rule", machine, 4 - machine, state, 0, state);
            }
            run.call("rule", machine, 0, 0, 0, 0);
            run.call("rule", machine, 1 + machine, 0, 0, 0);
        }
        Random random = new Random(1);
        for (int i = 0; i < 100; i++) {
            run.call("goal", random.nextInt(2), random.nextInt(4), random.nextInt(2));
            run.call("least", random.nextInt(16));
            run.call("witness", 1 << random.nextInt(4));
        }
        run.call("terms", 8, 7);
        run.call("included");
        run.compareNodes();
    }
}
