import java.util.Arrays;

/**
 * Two machines that read terms from the leaves up, and questions on the sets of terms that they accept.
 *
 * <p>All questions go through the PROFILE of a term: the set of states that it reaches in machine 0 and, four bits
 * higher, the set that it reaches in machine 1. A term's profile follows from its symbol and its children's profiles
 * alone, so the 256 profiles stand for all terms.
 */
public final class TreeMachines {
    private static final int SYMBOLS = 8;
    private static final int FIRST_WITH_LEFT = 3;
    private static final int FIRST_WITH_RIGHT = 5;
    private static final int STATES = 4;
    private static final int SETS = 1 << STATES;
    private static final int PROFILES = SETS * SETS;
    private static final int SORTS = 16;
    private static final int SORT_ONLY_FIRST = 4;
    private static final int MOST_NODES = 200;
    private static final int MOST_NODE_SIZE = 1000;
    private static final int MOST_LEAST_SIZE = 32;
    private static final int MOST_COUNTED_SIZE = 12;

    /** What stands for a child that is not there, where nodes or profiles are named. */
    private static final int NONE = -1;

    /**
     * The profile taken for a missing child: it reaches state 0 alone in both machines, so that the state of a rule
     * that is "taken as 0" always fits, and all symbols can be read in one way.
     */
    private static final int MISSING_CHILD = 1 | 1 << STATES;

    /** The least state in each set of states (0 for the empty set, where it is not used). */
    private static final int[] LOWEST_STATE = {0, 0, 1, 0, 2, 0, 1, 0, 3, 0, 1, 0, 2, 0, 1, 0};

    private final Pair machines;
    private final Forest forest;
    private final LeastTerms leastTerms;
    private final Counts counts;

    public TreeMachines() {
        machines = new Pair();
        forest = new Forest();
        leastTerms = new LeastTerms(machines);
        counts = new Counts(machines, leastTerms);
    }

    public boolean rule(int machine, int symbol, int left, int right, int to) {
        return changeRule(machine, rowOf(symbol, left, right), to, true);
    }

    public boolean drop(int machine, int symbol, int left, int right, int to) {
        return changeRule(machine, rowOf(symbol, left, right), to, false);
    }

    public boolean isRule(int machine, int symbol, int left, int right, int to) {
        Machine asked = machines.numbered(machine);
        int row = rowOf(symbol, left, right);
        return asked != null && row != NONE && isState(to) && asked.leads(row, to);
    }

    public boolean goal(int machine, int state, boolean on) {
        Machine changed = machines.numbered(machine);
        if (changed == null || !isState(state) || changed.isGoal(state) == on) {
            return false;
        }
        changed.turnGoal(state);
        return true;
    }

    public boolean clear(int machine) {
        Machine cleared = machines.numbered(machine);
        if (cleared == null) {
            return false;
        }
        cleared.empty();
        forgetProfiles();
        return true;
    }

    public int node(int symbol, int left, int right) {
        if (!isSymbol(symbol)) {
            return -1;
        }
        boolean leftIsWrong = hasLeft(symbol) && !forest.holds(left);
        boolean rightIsWrong = hasRight(symbol) && !forest.holds(right);
        if (leftIsWrong || rightIsWrong) {
            return -2;
        }
        if (forest.room() < 1) {
            return -3;
        }
        return forest.add(symbol, left, right);
    }

    public int nodes() {
        return forest.count();
    }

    public int part(int n, int what) {
        if (!forest.holds(n)) {
            return -2;
        }
        switch (what) {
            case 0:
                return forest.symbolOf(n);
            case 1:
                return forest.leftOf(n);
            case 2:
                return forest.rightOf(n);
            default:
                return -2;
        }
    }

    public int reached(int machine, int n) {
        if (machines.numbered(machine) == null || !forest.holds(n)) {
            return -1;
        }
        int profile = forest.profileOf(n, machines);
        return machine == 0 ? firstSet(profile) : secondSet(profile);
    }

    public int place(int n) {
        if (!forest.holds(n)) {
            return -1;
        }
        return machines.placeOf(forest.profileOf(n, machines));
    }

    public int size(int n) {
        return forest.holds(n) ? forest.sizeOf(n) : -1;
    }

    public boolean included() {
        return leastTerms.firstOf(SORT_ONLY_FIRST) == NONE;
    }

    public int least(int sort) {
        if (!isSort(sort)) {
            return -1;
        }
        int profile = leastTerms.firstOf(sort);
        return profile == NONE ? 0 : leastTerms.sizeOf(profile);
    }

    public int witness(int sort) {
        if (!isSort(sort)) {
            return -1;
        }
        int profile = leastTerms.firstOf(sort);
        if (profile == NONE) {
            return -2;
        }
        int length = leastTerms.sizeOf(profile);
        if (length > MOST_LEAST_SIZE) {
            return -3;
        }
        if (length > forest.room()) {
            return -4;
        }
        return forest.plant(leastTerms.writingOf(profile), length);
    }

    public int terms(int sort, int n) {
        if (!isSort(sort) || n < 1 || n > MOST_COUNTED_SIZE) {
            return -1;
        }
        return counts.ofSort(sort, n);
    }

    private boolean changeRule(int machine, int row, int to, boolean on) {
        Machine changed = machines.numbered(machine);
        if (changed == null || row == NONE || !isState(to) || changed.leads(row, to) == on) {
            return false;
        }
        changed.turnRule(row, to);
        forgetProfiles();
        return true;
    }

    private void forgetProfiles() {
        leastTerms.forget();
        counts.forget();
    }

    private static boolean isSymbol(int symbol) {
        return symbol >= 0 && symbol < SYMBOLS;
    }

    private static boolean isState(int state) {
        return state >= 0 && state < STATES;
    }

    private static boolean isSort(int sort) {
        return sort >= 0 && sort < SORTS;
    }

    private static boolean hasLeft(int symbol) {
        return symbol >= FIRST_WITH_LEFT;
    }

    private static boolean hasRight(int symbol) {
        return symbol >= FIRST_WITH_RIGHT;
    }

    /** Where the rules with this symbol and these states stand in a machine, or NONE if something is out of range. */
    private static int rowOf(int symbol, int left, int right) {
        if (!isSymbol(symbol)) {
            return NONE;
        }
        int takenLeft = hasLeft(symbol) ? left : 0;
        int takenRight = hasRight(symbol) ? right : 0;
        if (!isState(takenLeft) || !isState(takenRight)) {
            return NONE;
        }
        return (symbol * STATES + takenLeft) * STATES + takenRight;
    }

    private static int firstSet(int profile) {
        return profile & (SETS - 1);
    }

    private static int secondSet(int profile) {
        return profile >> STATES & (SETS - 1);
    }

    /** One machine: its rules and goals, and where its rules lead from sets of states. */
    private static final class Machine {
        /** For each row the set of the states that its rules lead to. */
        private final int[] targets = new int[SYMBOLS * STATES * STATES];

        /** For each symbol and sets of states that the children reach the set that the term reaches. */
        final int[] reachable = new int[SYMBOLS * SETS * SETS];

        private int goals = 0;

        boolean leads(int row, int to) {
            return (targets[row] >> to & 1) == 1;
        }

        void turnRule(int row, int to) {
            targets[row] ^= 1 << to;
            rebuild(row / (STATES * STATES));
        }

        boolean isGoal(int state) {
            return (goals >> state & 1) == 1;
        }

        void turnGoal(int state) {
            goals ^= 1 << state;
        }

        void empty() {
            Arrays.fill(targets, 0);
            Arrays.fill(reachable, 0);
            goals = 0;
        }

        boolean accepts(int set) {
            return (set & goals) != 0;
        }

        /** Fills a symbol's sets in growing order, each from two that lack one state; a missing child is always {0}. */
        private void rebuild(int symbol) {
            int lastLeft = hasLeft(symbol) ? SETS - 1 : 1;
            int lastRight = hasRight(symbol) ? SETS - 1 : 1;
            for (int left = 1; left <= lastLeft; left++) {
                for (int right = 1; right <= lastRight; right++) {
                    int row = (symbol * STATES + LOWEST_STATE[left]) * STATES + LOWEST_STATE[right];
                    reachable[cell(symbol, left, right)] = targets[row]
                            | reachable[cell(symbol, left & (left - 1), right)]
                            | reachable[cell(symbol, left, right & (right - 1))];
                }
            }
        }

        private static int cell(int symbol, int leftSet, int rightSet) {
            return (symbol * SETS + leftSet) * SETS + rightSet;
        }
    }

    /** The two machines, read together. */
    private static final class Pair {
        private final Machine first = new Machine();
        private final Machine second = new Machine();

        /** Null if there is no such machine. */
        Machine numbered(int machine) {
            if (machine == 0) {
                return first;
            }
            return machine == 1 ? second : null;
        }

        /** Written out without smaller functions, because the questions spend most of their steps here. */
        int profileOf(int symbol, int left, int right) {
            int firstCell = (symbol * SETS + (left & (SETS - 1))) * SETS + (right & (SETS - 1));
            int secondCell = (symbol * SETS + (left >> STATES)) * SETS + (right >> STATES);
            return first.reachable[firstCell] | second.reachable[secondCell] << STATES;
        }

        int placeOf(int profile) {
            int byFirst = first.accepts(firstSet(profile)) ? 2 : 0;
            return second.accepts(secondSet(profile)) ? byFirst + 1 : byFirst;
        }

        boolean isOfSort(int profile, int sort) {
            return (sort >> placeOf(profile) & 1) == 1;
        }
    }

    /** The nodes. */
    private static final class Forest {
        private final int[] symbols = new int[MOST_NODES];
        private final int[] lefts = new int[MOST_NODES];
        private final int[] rights = new int[MOST_NODES];
        private final int[] sizes = new int[MOST_NODES];
        private final int[] profiles = new int[MOST_NODES];
        private final int[] unused = new int[MOST_LEAST_SIZE];
        private int made = 0;

        boolean holds(int n) {
            return n >= 0 && n < made;
        }

        int count() {
            return made;
        }

        int room() {
            return MOST_NODES - made;
        }

        int symbolOf(int n) {
            return symbols[n];
        }

        int leftOf(int n) {
            return lefts[n];
        }

        int rightOf(int n) {
            return rights[n];
        }

        int sizeOf(int n) {
            return sizes[n];
        }

        /** Makes a node of children that were looked at before, where there is room. */
        int add(int symbol, int left, int right) {
            int n = made;
            symbols[n] = symbol;
            lefts[n] = hasLeft(symbol) ? left : NONE;
            rights[n] = hasRight(symbol) ? right : NONE;
            sizes[n] = Math.min(MOST_NODE_SIZE, 1 + sizeOrZero(lefts[n]) + sizeOrZero(rights[n]));
            made++;
            return n;
        }

        private int sizeOrZero(int n) {
            return n == NONE ? 0 : sizes[n];
        }

        /** Children have lesser numbers, so one pass upwards reads every node below n before it is needed. */
        int profileOf(int n, Pair machines) {
            for (int i = 0; i <= n; i++) {
                profiles[i] = machines.profileOf(symbols[i], childProfile(lefts[i]), childProfile(rights[i]));
            }
            return profiles[n];
        }

        private int childProfile(int n) {
            return n == NONE ? MISSING_CHILD : profiles[n];
        }

        /** Makes the nodes of a writing from its end; the last subterm made is always the leftmost one not yet used. */
        int plant(int[] writing, int length) {
            int open = 0;
            int n = NONE;
            for (int i = length - 1; i >= 0; i--) {
                int left = NONE;
                int right = NONE;
                if (hasLeft(writing[i]) && open > 0) {
                    open--;
                    left = unused[open];
                }
                if (hasRight(writing[i]) && open > 0) {
                    open--;
                    right = unused[open];
                }
                n = add(writing[i], left, right);
                unused[open] = n;
                open++;
            }
            return n;
        }
    }

    /**
     * The least term of every profile that some term has. They are found size by size and, within a size, in the order
     * of their writings, so that the first term found for a profile is its least, and an earlier one is the lesser.
     */
    private static final class LeastTerms {
        private static final int TOO_LARGE = MOST_LEAST_SIZE + 1;

        private final Pair machines;
        private final int[] sizes = new int[PROFILES];
        private final int[] symbols = new int[PROFILES];
        private final int[] lefts = new int[PROFILES];
        private final int[] rights = new int[PROFILES];
        private final int[] found = new int[PROFILES];

        /** Where the profiles of each size begin in found; they end where those of the next size begin. */
        private final int[] starts = new int[TOO_LARGE + 1];

        /** The found profiles of all sizes in the order of the writings alone, and each one's index there. */
        private final int[] byWriting = new int[PROFILES];
        private final int[] ranks = new int[PROFILES];

        private final int[] writing = new int[MOST_LEAST_SIZE];
        private final int[] pending = new int[MOST_LEAST_SIZE];
        private int count = 0;
        private boolean known = false;

        LeastTerms(Pair machines) {
            this.machines = machines;
        }

        void forget() {
            known = false;
        }

        int foundCount() {
            return count;
        }

        int foundAt(int i) {
            return found[i];
        }

        /** The size of the least term of a profile that was found, TOO_LARGE if it is more than is looked for. */
        int sizeOf(int profile) {
            return sizes[profile];
        }

        /** The profile of the least term of a sort, or NONE. */
        int firstOf(int sort) {
            learn();
            for (int i = 0; i < count; i++) {
                if (machines.isOfSort(found[i], sort)) {
                    return found[i];
                }
            }
            return NONE;
        }

        /** The writing of the least term of a profile whose size is not TOO_LARGE; good until the next call. */
        int[] writingOf(int profile) {
            int open = 1;
            pending[0] = profile;
            for (int i = 0; i < MOST_LEAST_SIZE && open > 0; i++) {
                open--;
                int term = pending[open];
                writing[i] = symbols[term];
                if (hasRight(symbols[term]) && open < MOST_LEAST_SIZE) {
                    pending[open] = rights[term];
                    open++;
                }
                if (hasLeft(symbols[term]) && open < MOST_LEAST_SIZE) {
                    pending[open] = lefts[term];
                    open++;
                }
            }
            return writing;
        }

        /** Finds the least terms anew if the rules have changed. */
        void learn() {
            if (known) {
                return;
            }
            Arrays.fill(sizes, 0);
            count = 0;
            int largest = 0;
            for (int size = 1; size <= MOST_LEAST_SIZE && canHaveSize(size, largest); size++) {
                starts[size] = count;
                findOfSize(size);
                starts[size + 1] = count;
                if (count > starts[size]) {
                    largest = size;
                    sortIn(starts[size]);
                }
            }
            if (canHaveSize(TOO_LARGE, largest)) {
                findLarger();
            }
            known = true;
        }

        /** A least term has least terms as children, so its size is bound by the largest of those. */
        private static boolean canHaveSize(int size, int largestChild) {
            return size <= 2 * largestChild + 1;
        }

        private void findOfSize(int size) {
            for (int symbol = 0; symbol < SYMBOLS; symbol++) {
                if (hasRight(symbol)) {
                    findWithTwo(symbol, size);
                } else if (hasLeft(symbol)) {
                    findWithOne(symbol, size);
                } else if (size == 1) {
                    meet(symbol, MISSING_CHILD, MISSING_CHILD, 1);
                }
            }
        }

        private void findWithOne(int symbol, int size) {
            if (size < 2) {
                return;
            }
            int end = starts[size];
            for (int i = starts[size - 1]; i < end; i++) {
                meet(symbol, found[i], MISSING_CHILD, size);
            }
        }

        /** No writing begins with another one, so the order of the left children decides before the right ones do. */
        private void findWithTwo(int symbol, int size) {
            int sorted = starts[size];
            for (int i = 0; i < sorted; i++) {
                int left = byWriting[i];
                int rightSize = size - 1 - sizes[left];
                if (rightSize < 1) {
                    continue;
                }
                int end = starts[rightSize + 1];
                for (int j = starts[rightSize]; j < end; j++) {
                    meet(symbol, left, found[j], size);
                }
            }
        }

        /** Finds what profiles there are beyond the sizes that are told; their order does not matter. */
        private void findLarger() {
            for (int i = 0; i < count && i < PROFILES; i++) {
                for (int symbol = FIRST_WITH_LEFT; symbol < FIRST_WITH_RIGHT; symbol++) {
                    meet(symbol, found[i], MISSING_CHILD, TOO_LARGE);
                }
                for (int j = 0; j <= i; j++) {
                    for (int symbol = FIRST_WITH_RIGHT; symbol < SYMBOLS; symbol++) {
                        meet(symbol, found[i], found[j], TOO_LARGE);
                        meet(symbol, found[j], found[i], TOO_LARGE);
                    }
                }
            }
        }

        private void meet(int symbol, int left, int right, int size) {
            int profile = machines.profileOf(symbol, left, right);
            if (sizes[profile] != 0 || count >= PROFILES) {
                return;
            }
            sizes[profile] = size;
            symbols[profile] = symbol;
            lefts[profile] = left;
            rights[profile] = right;
            found[count] = profile;
            count++;
        }

        /** Merges the profiles found since from, which stand in the order of their writings, from the back. */
        private void sortIn(int from) {
            int older = from - 1;
            int newer = count - 1;
            for (int i = count - 1; i >= 0 && newer >= from; i--) {
                if (older >= 0 && isWrittenBefore(found[newer], byWriting[older])) {
                    byWriting[i] = byWriting[older];
                    older--;
                } else {
                    byWriting[i] = found[newer];
                    newer--;
                }
            }
            for (int i = 0; i < count; i++) {
                ranks[byWriting[i]] = i;
            }
        }

        private boolean isWrittenBefore(int one, int other) {
            if (symbols[one] != symbols[other]) {
                return symbols[one] < symbols[other];
            }
            if (lefts[one] != lefts[other]) {
                return ranks[lefts[one]] < ranks[lefts[other]];
            }
            return ranks[rights[one]] < ranks[rights[other]];
        }
    }

    /** How many terms of each size have each profile; an int holds them, as it holds the number of all of a size. */
    private static final class Counts {
        private final Pair machines;
        private final LeastTerms leastTerms;
        private final int[] numbers = new int[(MOST_COUNTED_SIZE + 1) * PROFILES];

        /** The largest size that is counted so far. */
        private int counted = 0;

        Counts(Pair machines, LeastTerms leastTerms) {
            this.machines = machines;
            this.leastTerms = leastTerms;
        }

        void forget() {
            counted = 0;
        }

        int ofSort(int sort, int size) {
            leastTerms.learn();
            int end = leastTerms.foundCount();
            for (int next = counted + 1; next <= size; next++) {
                count(next, end);
                counted = next;
            }
            int sum = 0;
            for (int i = 0; i < end; i++) {
                int profile = leastTerms.foundAt(i);
                if (machines.isOfSort(profile, sort)) {
                    sum += numbers[size * PROFILES + profile];
                }
            }
            return sum;
        }

        private void count(int size, int end) {
            emptyRow(size * PROFILES);
            if (size == 1) {
                addTerms(0, FIRST_WITH_LEFT, MISSING_CHILD, MISSING_CHILD, PROFILES, 1);
                return;
            }
            for (int i = 0; i < end; i++) {
                int child = leastTerms.foundAt(i);
                int number = numbers[(size - 1) * PROFILES + child];
                if (number != 0) {
                    addTerms(FIRST_WITH_LEFT, FIRST_WITH_RIGHT, child, MISSING_CHILD, size * PROFILES, number);
                }
                countWithLeft(child, size, end);
            }
        }

        private void emptyRow(int row) {
            for (int profile = 0; profile < PROFILES; profile++) {
                numbers[row + profile] = 0;
            }
        }

        private void countWithLeft(int left, int size, int end) {
            int mostRight = size - 1 - leastTerms.sizeOf(left);
            for (int i = 0; i < end; i++) {
                int right = leastTerms.foundAt(i);
                // The profiles are found by size: where one has no small enough term, no later one has.
                if (leastTerms.sizeOf(right) > mostRight) {
                    return;
                }
                int number = couples(left, right, size - 1);
                if (number != 0) {
                    addTerms(FIRST_WITH_RIGHT, SYMBOLS, left, right, size * PROFILES, number);
                }
            }
        }

        /** How many couples of terms of these profiles have this size together. */
        private int couples(int left, int right, int size) {
            int sum = 0;
            int most = size - leastTerms.sizeOf(right);
            for (int leftSize = leastTerms.sizeOf(left); leftSize <= most; leftSize++) {
                sum += numbers[leftSize * PROFILES + left] * numbers[(size - leftSize) * PROFILES + right];
            }
            return sum;
        }

        /** Counts so many terms for each symbol from one to below another above children of these profiles. */
        private void addTerms(int fromSymbol, int endSymbol, int left, int right, int row, int number) {
            for (int symbol = fromSymbol; symbol < endSymbol; symbol++) {
                numbers[row + machines.profileOf(symbol, left, right)] += number;
            }
        }
    }
}
