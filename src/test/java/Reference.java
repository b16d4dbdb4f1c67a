import java.util.ArrayList;
import java.util.List;
import java.util.Map;
import java.util.TreeMap;

/** The document in its plainest form, slow and without tables: what the class's answers are held against. */
final class Reference {
    private static final int[] CHILDREN = {0, 0, 0, 1, 1, 2, 2, 2};

    private final boolean[][][][][] rules = new boolean[2][8][4][4][4];
    private final boolean[][] goals = new boolean[2][4];
    private final List<int[]> nodes = new ArrayList<>();

    /** What leastWritings answered since the rules last changed, or null. */
    private String[] writings = null;

    private boolean inRange(int machine, int symbol, int left, int right, int to) {
        return in(machine, 2) && in(symbol, 8) && in(to, 4)
                && (CHILDREN[symbol] < 1 || in(left, 4)) && (CHILDREN[symbol] < 2 || in(right, 4));
    }

    private static boolean in(int number, int end) {
        return number >= 0 && number < end;
    }

    private boolean[] targets(int machine, int symbol, int left, int right) {
        return rules[machine][symbol][CHILDREN[symbol] < 1 ? 0 : left][CHILDREN[symbol] < 2 ? 0 : right];
    }

    boolean isRule(int machine, int symbol, int left, int right, int to) {
        return inRange(machine, symbol, left, right, to) && targets(machine, symbol, left, right)[to];
    }

    boolean rule(int machine, int symbol, int left, int right, int to) {
        if (!inRange(machine, symbol, left, right, to) || isRule(machine, symbol, left, right, to)) {
            return false;
        }
        targets(machine, symbol, left, right)[to] = true;
        writings = null;
        return true;
    }

    boolean drop(int machine, int symbol, int left, int right, int to) {
        if (!isRule(machine, symbol, left, right, to)) {
            return false;
        }
        targets(machine, symbol, left, right)[to] = false;
        writings = null;
        return true;
    }

    boolean goal(int machine, int state, boolean on) {
        if (!in(machine, 2) || !in(state, 4) || goals[machine][state] == on) {
            return false;
        }
        goals[machine][state] = on;
        return true;
    }

    boolean clear(int machine) {
        if (!in(machine, 2)) {
            return false;
        }
        rules[machine] = new boolean[8][4][4][4];
        goals[machine] = new boolean[4];
        writings = null;
        return true;
    }

    int node(int symbol, int left, int right) {
        if (!in(symbol, 8)) {
            return -1;
        }
        int children = CHILDREN[symbol];
        if (children > 0 && !in(left, nodes.size()) || children > 1 && !in(right, nodes.size())) {
            return -2;
        }
        if (nodes.size() == 200) {
            return -3;
        }
        nodes.add(new int[] {symbol, children > 0 ? left : -1, children > 1 ? right : -1});
        return nodes.size() - 1;
    }

    int nodes() {
        return nodes.size();
    }

    int part(int n, int what) {
        return in(n, nodes.size()) && in(what, 3) ? nodes.get(n)[what] : -2;
    }

    /** The states that a term reaches whose children reach these. */
    private int step(int machine, int symbol, int leftSet, int rightSet) {
        int set = 0;
        for (int left = 0; left < 4; left++) {
            for (int right = 0; right < 4; right++) {
                boolean leftFits = CHILDREN[symbol] > 0 ? (leftSet >> left & 1) == 1 : left == 0;
                boolean rightFits = CHILDREN[symbol] > 1 ? (rightSet >> right & 1) == 1 : right == 0;
                for (int to = 0; to < 4; to++) {
                    if (leftFits && rightFits && rules[machine][symbol][left][right][to]) {
                        set |= 1 << to;
                    }
                }
            }
        }
        return set;
    }

    private int both(int symbol, int left, int right) {
        return step(0, symbol, left & 15, right & 15) | step(1, symbol, left >> 4, right >> 4) << 4;
    }

    private int[] nodeProfiles() {
        int[] profiles = new int[nodes.size()];
        for (int i = 0; i < profiles.length; i++) {
            int[] node = nodes.get(i);
            profiles[i] = both(node[0], node[1] < 0 ? 0 : profiles[node[1]], node[2] < 0 ? 0 : profiles[node[2]]);
        }
        return profiles;
    }

    int reached(int machine, int n) {
        return in(machine, 2) && in(n, nodes.size()) ? nodeProfiles()[n] >> 4 * machine & 15 : -1;
    }

    private boolean accepts(int machine, int set) {
        for (int state = 0; state < 4; state++) {
            if ((set >> state & 1) == 1 && goals[machine][state]) {
                return true;
            }
        }
        return false;
    }

    private int placeOf(int profile) {
        return (accepts(0, profile & 15) ? 2 : 0) + (accepts(1, profile >> 4) ? 1 : 0);
    }

    int place(int n) {
        return in(n, nodes.size()) ? placeOf(nodeProfiles()[n]) : -1;
    }

    int size(int n) {
        if (!in(n, nodes.size())) {
            return -1;
        }
        double[] sizes = new double[nodes.size()];
        for (int i = 0; i < sizes.length; i++) {
            int[] node = nodes.get(i);
            sizes[i] = 1 + (node[1] < 0 ? 0 : sizes[node[1]]) + (node[2] < 0 ? 0 : sizes[node[2]]);
        }
        return (int) Math.min(1000, sizes[n]);
    }

    /** The least writing of each profile that there is, "" where it is longer than 32, null where there is none. */
    private String[] leastWritings() {
        String[] least = new String[256];
        boolean changed = true;
        while (changed) {
            changed = false;
            for (int symbol = 0; symbol < 8; symbol++) {
                for (int left = 0; left < (CHILDREN[symbol] > 0 ? 256 : 1); left++) {
                    if (CHILDREN[symbol] > 0 && least[left] == null) {
                        continue;
                    }
                    for (int right = 0; right < (CHILDREN[symbol] > 1 ? 256 : 1); right++) {
                        if (CHILDREN[symbol] < 2 || least[right] != null) {
                            changed |= improve(least, symbol, left, right);
                        }
                    }
                }
            }
        }
        return least;
    }

    private boolean improve(String[] least, int symbol, int left, int right) {
        String leftWriting = CHILDREN[symbol] > 0 ? least[left] : "";
        String rightWriting = CHILDREN[symbol] > 1 ? least[right] : "";
        boolean tooLong = CHILDREN[symbol] > 0 && leftWriting.isEmpty()
                || CHILDREN[symbol] > 1 && rightWriting.isEmpty()
                || 1 + leftWriting.length() + rightWriting.length() > 32;
        String writing = tooLong ? "" : symbol + leftWriting + rightWriting;
        int profile = both(symbol, left, right);
        if (least[profile] == null || isLesser(writing, least[profile])) {
            least[profile] = writing;
            return true;
        }
        return false;
    }

    private static boolean isLesser(String one, String other) {
        if (one.isEmpty() || other.isEmpty()) {
            return !one.isEmpty() && other.isEmpty();
        }
        return one.length() != other.length() ? one.length() < other.length() : one.compareTo(other) < 0;
    }

    /** The writing of the least term of a sort, "" if it is longer than 32, null if there is none. */
    String leastWriting(int sort) {
        writings = writings == null ? leastWritings() : writings;
        String best = null;
        for (int profile = 0; profile < 256; profile++) {
            if (writings[profile] != null && (sort >> placeOf(profile) & 1) == 1
                    && (best == null || isLesser(writings[profile], best))) {
                best = writings[profile];
            }
        }
        return best;
    }

    boolean included() {
        return leastWriting(4) == null;
    }

    int least(int sort) {
        if (!in(sort, 16)) {
            return -1;
        }
        String writing = leastWriting(sort);
        return writing == null ? 0 : writing.isEmpty() ? 33 : writing.length();
    }

    int witness(int sort) {
        if (!in(sort, 16)) {
            return -1;
        }
        String writing = leastWriting(sort);
        if (writing == null) {
            return -2;
        }
        if (writing.isEmpty()) {
            return -3;
        }
        if (nodes.size() + writing.length() > 200) {
            return -4;
        }
        List<Integer> open = new ArrayList<>();
        for (int i = writing.length() - 1; i >= 0; i--) {
            int symbol = writing.charAt(i) - '0';
            int left = CHILDREN[symbol] > 0 ? open.remove(open.size() - 1) : -1;
            int right = CHILDREN[symbol] > 1 ? open.remove(open.size() - 1) : -1;
            open.add(node(symbol, left, right));
        }
        return open.get(0);
    }

    int terms(int sort, int n) {
        if (!in(sort, 16) || n < 1 || n > 12) {
            return -1;
        }
        List<Map<Integer, Long>> bySize = new ArrayList<>();
        bySize.add(new TreeMap<>());
        for (int size = 1; size <= n; size++) {
            bySize.add(countSize(bySize, size));
        }
        long sum = 0;
        for (Map.Entry<Integer, Long> entry : bySize.get(n).entrySet()) {
            sum += (sort >> placeOf(entry.getKey()) & 1) == 1 ? entry.getValue() : 0;
        }
        return Math.toIntExact(sum);
    }

    private Map<Integer, Long> countSize(List<Map<Integer, Long>> smaller, int size) {
        Map<Integer, Long> counts = new TreeMap<>();
        for (int symbol = 0; symbol < 3 && size == 1; symbol++) {
            counts.merge(both(symbol, 0, 0), 1L, Long::sum);
        }
        for (Map.Entry<Integer, Long> child : smaller.get(size - 1).entrySet()) {
            for (int symbol = 3; symbol < 5; symbol++) {
                counts.merge(both(symbol, child.getKey(), 0), child.getValue(), Long::sum);
            }
        }
        for (int leftSize = 1; leftSize < size - 1; leftSize++) {
            for (Map.Entry<Integer, Long> left : smaller.get(leftSize).entrySet()) {
                for (Map.Entry<Integer, Long> right : smaller.get(size - 1 - leftSize).entrySet()) {
                    for (int symbol = 5; symbol < 8; symbol++) {
                        counts.merge(both(symbol, left.getKey(), right.getKey()),
                                left.getValue() * right.getValue(), Long::sum);
                    }
                }
            }
        }
        return counts;
    }

    /**
     * Every term up to a size, lesser ones first, each with its place: told from its own symbols and children, without
     * any thought of what terms have in common.
     */
    List<Told> allTerms(int mostSize) {
        List<List<Told>> bySize = new ArrayList<>();
        bySize.add(new ArrayList<>());
        for (int size = 1; size <= mostSize; size++) {
            List<Told> terms = new ArrayList<>();
            for (int symbol = 0; symbol < 8; symbol++) {
                addTerms(terms, bySize, symbol, size);
            }
            terms.sort((one, other) -> one.writing.compareTo(other.writing));
            bySize.add(terms);
        }
        List<Told> all = new ArrayList<>();
        bySize.forEach(all::addAll);
        return all;
    }

    private void addTerms(List<Told> terms, List<List<Told>> bySize, int symbol, int size) {
        if (CHILDREN[symbol] == 0 && size == 1) {
            terms.add(tell(symbol, null, null));
        }
        if (CHILDREN[symbol] == 1) {
            bySize.get(size - 1).forEach(child -> terms.add(tell(symbol, child, null)));
        }
        for (int leftSize = 1; CHILDREN[symbol] == 2 && leftSize < size - 1; leftSize++) {
            for (Told left : bySize.get(leftSize)) {
                for (Told right : bySize.get(size - 1 - leftSize)) {
                    terms.add(tell(symbol, left, right));
                }
            }
        }
    }

    private Told tell(int symbol, Told left, Told right) {
        Told told = new Told();
        told.writing = symbol + (left == null ? "" : left.writing) + (right == null ? "" : right.writing);
        told.reached = both(symbol, left == null ? 0 : left.reached, right == null ? 0 : right.reached);
        told.place = placeOf(told.reached);
        return told;
    }

    /** A term as allTerms tells it. */
    static final class Told {
        String writing;
        int reached;
        int place;
    }
}
