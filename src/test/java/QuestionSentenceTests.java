/** Each sentence of promises 13 to 16 that names a bound or a special case has a test of its own. */
public final class QuestionSentenceTests {
    private static final int[] NUMBERS_OF_ALL = {0, 3, 6, 39, 186, 1182, 7116};

    public static void main(String[] args) {
        includedWhereMachine0AcceptsNone();
        includedWhereMachine1AcceptsNone();
        includedWhereBothAreTheSame();
        includedWhereOneTermIsMissing();
        includedWhereLargeTermsAreMissing();
        leastFrom1To32();
        leastOfMore();
        leastOfMoreByOneChild();
        leastNeedsBothChildren();
        leastWhereEveryTermReachesSomething();
        leastWhereThereIsNone();
        leastOfWrongSort();
        witnessMadeFromTheLast();
        witnessSharesNothing();
        witnessOfWrongSort();
        witnessWhereThereIsNone();
        witnessOfMoreThan32();
        witnessFor200Nodes();
        witnessFirstThatHolds();
        termsOfEachSize();
        termsAfterChanges();
        termsCountedOnce();
        termsNeverMoreThanAnInt();
        termsOfWrongSort();
        termsOfWrongSize();
        Check.end();
    }

    private static void includedWhereMachine0AcceptsNone() {
        Check.sentence("13", "all terms that machine 0 accepts, where it accepts none");
        TreeMachines x = new TreeMachines();
        Check.due("both accept none", x.included(), true);
        Given.acceptAll(x, 1);
        Check.due("machine 1 accepts all", x.included(), true);
        x.goal(0, 3, true);
        Check.due("a goal that nothing reaches", x.included(), true);
        x.clear(1);
        x.rule(0, 3, 0, 0, 3);
        x.rule(0, 5, 3, 3, 3);
        Check.due("rules that nothing fits", x.included(), true);
        x.rule(0, 2, 0, 0, 0);
        Check.due("now something fits", x.included(), false);
    }

    private static void includedWhereMachine1AcceptsNone() {
        Check.sentence("13", "Whether machine 1 accepts all terms, where it accepts none");
        TreeMachines x = new TreeMachines();
        Given.acceptOnly(x, 0, "2");
        Check.due("machine 1 is empty", x.included(), false);
        x.rule(1, 2, 0, 0, 0);
        Check.due("machine 1 has no goal", x.included(), false);
        x.goal(1, 1, true);
        Check.due("machine 1 has another goal", x.included(), false);
        x.goal(1, 0, true);
        Check.due("machine 1 accepts it", x.included(), true);
    }

    private static void includedWhereBothAreTheSame() {
        Check.sentence("13", "Whether machine 1 accepts all terms that machine 0 accepts, where both accept the same");
        TreeMachines x = new TreeMachines();
        Given.acceptAll(x, 0);
        Given.acceptAll(x, 1);
        Check.due("both accept all", x.included(), true);
        x.rule(1, 5, 1, 1, 3);
        Check.due("a rule that adds nothing", x.included(), true);
        for (String writing : Given.allWritings(4)) {
            TreeMachines one = new TreeMachines();
            Given.acceptOnly(one, 0, writing);
            Given.acceptOnly(one, 1, writing);
            Check.due("both accept " + writing, one.included(), true);
        }
    }

    private static void includedWhereOneTermIsMissing() {
        Check.sentence("13", "all terms");
        // Machine 1 accepts what holds a symbol other than 0 and 3, and chains of 3 above 0 but for 330.
        TreeMachines x = new TreeMachines();
        Given.acceptAll(x, 0);
        x.rule(1, 0, 0, 0, 0);
        x.rule(1, 3, 0, 0, 1);
        x.rule(1, 3, 1, 0, 2);
        x.rule(1, 3, 2, 0, 3);
        x.rule(1, 3, 3, 0, 3);
        x.rule(1, 1, 0, 0, 3);
        x.rule(1, 2, 0, 0, 3);
        for (int i = 0; i < 16; i++) {
            x.rule(1, 4, i & 3, 0, 3);
            for (int symbol = 5; symbol < 8; symbol++) {
                x.rule(1, symbol, i >> 2, i & 3, 3);
            }
        }
        x.goal(1, 0, true);
        x.goal(1, 1, true);
        x.goal(1, 3, true);
        Check.due("one term of all is missing", x.included(), false);
        Check.due("its size", x.least(4), 3);
        Check.due("it is the only one of its size", x.terms(4, 3), 1);
        Check.due("none of size 12 is missing", x.terms(4, 12), 0);
        Check.due("the term", Given.writing(x, x.witness(4)), "330");
        x.goal(1, 2, true);
        Check.due("none is missing", x.included(), true);
    }

    private static void includedWhereLargeTermsAreMissing() {
        Check.sentence("13", "all terms, also those that least tells no size of");
        for (int kind = 0; kind < Walk.KINDS; kind++) {
            for (int place = 0; place < 12; place++) {
                Walk walk = new Walk(kind);
                String term = "a term of size " + walk.sizeAt(place);
                TreeMachines x = walk.lacking(place);
                Check.due("included() but for " + term, x.included(), false);
                Check.due("least(4), " + term, x.least(4), leastOf(walk.sizeAt(place)));
                x.goal(1, place >> 2, true);
                Check.due("included() with " + term, x.included(), true);
                Check.due("least(4) without " + term, x.least(4), 0);
                x.goal(1, place >> 2, false);
                Check.due("included() again but for " + term, x.included(), false);
            }
        }
    }

    private static int leastOf(int size) {
        return Math.min(33, size);
    }

    private static void leastFrom1To32() {
        Check.sentence("14", "The size of the least term of the sort: 1 .. 32");
        for (int size = 1; size <= 32; size++) {
            TreeMachines x = Walk.objectOfSize(size);
            Check.due("least(8) of size " + size, x.least(8), size);
            Check.due("the same again", x.least(8), size);
        }
        for (int kind = 0; kind < Walk.KINDS; kind++) {
            for (int place = 0; place < Walk.PLACES; place++) {
                Walk walk = new Walk(kind);
                Check.due("walk " + kind + ", place " + place, walk.upTo(place).least(8), leastOf(walk.sizeAt(place)));
            }
        }
    }

    private static void leastOfMore() {
        Check.sentence("14", "33 if it is more");
        for (int size : new int[] {33, 34, 35, 63, 64, 65535}) {
            TreeMachines x = Walk.objectOfSize(size);
            Check.due("least(8) of size " + size, x.least(8), 33);
            Check.due("the same again", x.least(8), 33);
            Check.due("the least of others", x.least(15), 1);
        }
    }

    private static void leastOfMoreByOneChild() {
        Check.sentence("14", "33 if it is more, and one child alone is so large");
        for (int symbol = 3; symbol < 8; symbol++) {
            for (int large = 0; large < (symbol < 5 ? 1 : 2); large++) {
                // Place 11 of this walk has a term of size 4095; nothing but the new rule leads to 3 in machine 1.
                TreeMachines x = new Walk(Walk.KINDS - 1).upTo(15);
                x.drop(1, 5, 2, 2, 3);
                Check.due("least(8) of a walk that is cut", x.least(8), 0);
                boolean left = large == 0;
                x.rule(0, symbol, left ? 3 : 0, left ? 0 : 3, 3);
                Check.due("least(8) by machine 0 alone", x.least(8), 0);
                x.rule(1, symbol, left ? 2 : 0, left ? 0 : 2, 3);
                Check.due("least(8) of symbol " + symbol + ", large child " + large, x.least(8), 33);
                Check.due("witness(8)", x.witness(8), -3);
                Check.due("terms(8, 12)", x.terms(8, 12), 0);
            }
        }
    }

    private static void leastNeedsBothChildren() {
        Check.sentence("14", "0 if there is none, though a large term would fit as one of two children");
        // A walk with its states the other way round: nothing reaches 0 in machine 1 but by the last rule.
        TreeMachines x = new TreeMachines();
        for (int i = 0; i < 3; i++) {
            x.rule(0, 6, 3 - i, 3 - i, 2 - i);
            for (int j = 0; j < 4; j++) {
                x.rule(1, 6, j, j, j);
            }
        }
        x.rule(0, 0, 0, 0, 3);
        x.rule(1, 0, 0, 0, 3);
        x.rule(0, 5, 0, 0, 3);
        x.rule(1, 5, 3, 3, 2);
        x.rule(1, 5, 2, 2, 1);
        x.goal(0, 0, true);
        x.goal(1, 1, true);
        Check.due("least(8) of the large term", x.least(8), 33);
        x.goal(1, 1, false);
        x.goal(1, 0, true);
        for (int symbol = 5; symbol < 8; symbol++) {
            x.rule(1, symbol, 1, 0, 0);
            Check.due("least(10) where symbol " + symbol + " has no right child", x.least(10), 0);
            x.drop(1, symbol, 1, 0, 0);
            x.rule(1, symbol, 0, 1, 0);
            Check.due("least(10) where symbol " + symbol + " has no left child", x.least(10), 0);
            x.drop(1, symbol, 0, 1, 0);
        }
    }

    private static void leastWhereEveryTermReachesSomething() {
        Check.sentence("14", "0 if there is none, though large terms have to be looked at to know");
        // Three states of each machine are a walk, the fourth is for all that leaves it: no term reaches nothing.
        TreeMachines x = new TreeMachines();
        for (int[] r : Given.allRules()) {
            boolean same = r[1] == r[2] && r[1] < 3;
            boolean step = r[0] == 6 && same;
            boolean turn = r[0] == 5 && same;
            int first = r[0] == 0 || turn && r[1] == 2 ? 0 : step && r[1] < 2 ? r[1] + 1 : 3;
            int second = r[0] == 0 ? 0 : step ? r[1] : turn ? r[1] + 1 : 3;
            if (r[3] == first) {
                Given.addRule(x, 0, r);
            }
            if (r[3] == second) {
                Given.addRule(x, 1, r);
            }
        }
        x.goal(0, 2, true);
        x.goal(1, 2, true);
        Check.due("least(8) at the end of the walk", x.least(8), 33);
        for (int i = 0; i < 8; i++) {
            x.goal(i >> 2, i & 3, true);
        }
        for (int sort = 0; sort < 16; sort++) {
            Check.due("least(" + sort + ") where both accept all", x.least(sort), sort >> 3);
            Check.due("terms(" + sort + ", 3) where both accept all", x.terms(sort, 3), 39 * (sort >> 3));
        }
        Check.due("included()", x.included(), true);
        x.goal(1, 2, false);
        Check.due("included() but for some", x.included(), false);
    }

    private static void leastWhereThereIsNone() {
        Check.sentence("14", "0 if there is none");
        TreeMachines x = new TreeMachines();
        Check.due("least(0)", x.least(0), 0);
        Check.due("least(14) of empty machines", x.least(14), 0);
        Given.acceptAll(x, 0);
        Check.due("least(0)", x.least(0), 0);
        Check.due("least(3), as machine 0 accepts all", x.least(3), 0);
        Check.due("least(8), as machine 1 accepts none", x.least(8), 0);
        Check.due("least(4)", x.least(4), 1);
        // Without its last turn, a walk never comes to its end; what is left of it is larger than 32.
        TreeMachines walk = Walk.objectOfSize(65535);
        walk.drop(1, 5, 2, 2, 3);
        Check.due("least(8) of a walk that is cut", walk.least(8), 0);
        walk.rule(1, 5, 2, 2, 3);
        Check.due("least(8) of the whole walk", walk.least(8), 33);
    }

    private static void leastOfWrongSort() {
        Check.sentence("14", "-1 if sort is not 0 .. 15");
        TreeMachines x = new TreeMachines();
        Given.acceptAll(x, 0);
        Given.acceptAll(x, 1);
        for (int wrong : Given.outside(16)) {
            Check.due("least(" + wrong + ")", x.least(wrong), -1);
        }
        Check.due("least(15)", x.least(15), 1);
        Check.due("least(0)", x.least(0), 0);
    }

    private static void witnessMadeFromTheLast() {
        Check.sentence("15", "one new node for each symbol of its writing, beginning with the last one of the"
                + " writing, so that the term itself is made last: its number");
        for (int kind = 0; kind < Walk.KINDS; kind++) {
            Walk walk = new Walk(kind);
            for (int place = 0; place < Walk.PLACES && walk.sizeAt(place) <= 32; place++) {
                dueMadeFromTheLast(walk.upTo(place), walk.writingAt(place));
            }
        }
    }

    private static void dueMadeFromTheLast(TreeMachines x, String writing) {
        int size = writing.length();
        x.node(2, 0, 0);
        Check.due("witness(8), due is " + writing, x.witness(8), size);
        Check.due("nodes()", x.nodes(), size + 1);
        for (int i = 0; i < size; i++) {
            Check.due("symbol " + i + " from the end of " + writing, x.part(1 + i, 0),
                    writing.charAt(size - 1 - i) - '0');
        }
        Check.due("witness(8)", Given.writing(x, size), writing);
        Check.due("size of the witness", x.size(size), size);
        Check.due("place of the witness", x.place(size), 3);
        Check.due("the node before is as it was", x.part(0, 0), 2);
    }

    private static void witnessSharesNothing() {
        Check.sentence("15", "one new node for each symbol");
        TreeMachines x = new TreeMachines();
        Given.acceptOnly(x, 1, "5500500");
        Check.due("the nodes of the term are there before", Given.plant(x, "5500500"), 6);
        int[][] due = {{0, -1, -1}, {0, -1, -1}, {5, 1, 0}, {0, -1, -1}, {0, -1, -1}, {5, 4, 3}, {5, 5, 2}};
        for (int round = 1; round <= 3; round++) {
            int base = 7 * round;
            Check.due("witness(2)", x.witness(2), base + 6);
            for (int i = 0; i < 7; i++) {
                Check.due("symbol of " + (base + i), x.part(base + i, 0), due[i][0]);
                Check.due("left of " + (base + i), x.part(base + i, 1), due[i][1] < 0 ? -1 : base + due[i][1]);
                Check.due("right of " + (base + i), x.part(base + i, 2), due[i][2] < 0 ? -1 : base + due[i][2]);
            }
        }
        Check.due("nodes()", x.nodes(), 28);
    }

    /** Nothing is made: the next node has this number. */
    private static void dueNothingMade(TreeMachines x, int nodes) {
        Check.due("nodes()", x.nodes(), nodes);
        Check.due("part(" + nodes + ", 0)", x.part(nodes, 0), -2);
        Check.due("size(" + nodes + ")", x.size(nodes), -1);
        if (nodes > 0) {
            Check.due("the last node is as it was", Given.writing(x, nodes - 1), "0");
        }
        if (nodes < 200) {
            Check.due("the next node", x.node(0, 0, 0), nodes);
        }
    }

    private static void witnessOfWrongSort() {
        Check.sentence("15", "Else nothing is made: -1 sort not 0 .. 15");
        TreeMachines x = new TreeMachines();
        Given.acceptAll(x, 0);
        Given.acceptAll(x, 1);
        for (int wrong : Given.outside(16)) {
            Check.due("witness(" + wrong + ")", x.witness(wrong), -1);
        }
        dueNothingMade(x, 0);
        Check.due("witness(15)", x.witness(15), 1);
    }

    private static void witnessWhereThereIsNone() {
        Check.sentence("15", "-2 there is none");
        TreeMachines x = new TreeMachines();
        for (int sort = 0; sort < 16; sort += 2) {
            Check.due("witness(" + sort + ") of empty machines", x.witness(sort), -2);
        }
        dueNothingMade(x, 0);
        Given.acceptAll(x, 0);
        Given.acceptAll(x, 1);
        for (int sort = 0; sort < 8; sort++) {
            Check.due("witness(" + sort + ") where both accept all", x.witness(sort), -2);
        }
        dueNothingMade(x, 1);
    }

    private static void witnessOfMoreThan32() {
        Check.sentence("15", "-3 its size is more than 32");
        for (int size : new int[] {31, 32, 33, 34, 63, 65535}) {
            TreeMachines x = Walk.objectOfSize(size);
            Given.leaves(x, 3);
            Check.due("witness(8) of size " + size, x.witness(8), size <= 32 ? size + 2 : -3);
            if (size > 32) {
                dueNothingMade(x, 3);
            }
        }
    }

    private static void witnessFor200Nodes() {
        Check.sentence("15", "-4 there would be more than 200 nodes");
        for (int size = 1; size <= 32; size++) {
            TreeMachines exact = Walk.objectOfSize(size);
            Given.leaves(exact, 200 - size);
            Check.due("room for size " + size + " alone", exact.witness(8), 199);
            Check.due("nodes()", exact.nodes(), 200);
            Check.due("the term", Given.writing(exact, 199), Walk.writingOfSize(size));
            Check.due("once more", exact.witness(8), -4);
            Check.due("nodes()", exact.nodes(), 200);
            TreeMachines tight = Walk.objectOfSize(size);
            Given.leaves(tight, 201 - size);
            Check.due("room for one less than size " + size, tight.witness(8), -4);
            dueNothingMade(tight, 201 - size);
        }
    }

    private static void witnessFirstThatHolds() {
        Check.sentence("15", "-1 sort not 0 .. 15; -2 there is none; -3 its size is more than 32; -4 there would be"
                + " more than 200 nodes");
        TreeMachines x = Walk.objectOfSize(33);
        Given.leaves(x, 200);
        Check.due("wrong sort, and 200 nodes", x.witness(16), -1);
        Check.due("wrong sort, and 200 nodes", x.witness(-1), -1);
        Check.due("there is none, and 200 nodes", x.witness(0), -2);
        Check.due("size 33, and 200 nodes", x.witness(8), -3);
        Check.due("size 1, and 200 nodes", x.witness(15), -4);
        dueNothingMade(x, 200);
    }

    private static void termsOfEachSize() {
        Check.sentence("16", "How many terms of the sort have the size n (1 .. 12)");
        for (int size = 1; size <= 12; size++) {
            TreeMachines x = Walk.objectOfSize(size);
            for (int n = 12; n >= 1; n--) {
                Check.due("terms(8, " + n + ") of one term of size " + size, x.terms(8, n), n == size ? 1 : 0);
            }
        }
        TreeMachines x = new TreeMachines();
        for (int n = 1; n < NUMBERS_OF_ALL.length; n++) {
            Check.due("terms(1, " + n + ")", x.terms(1, n), NUMBERS_OF_ALL[n]);
            Check.due("terms(0, " + n + ")", x.terms(0, n), 0);
            Check.due("writings of size " + n, Given.allWritings(n).size(), NUMBERS_OF_ALL[n]);
        }
        TreeMachines chains = new TreeMachines();
        chains.rule(0, 1, 0, 0, 0);
        chains.rule(0, 3, 0, 0, 0);
        chains.rule(0, 4, 0, 0, 0);
        chains.goal(0, 0, true);
        for (int n = 1; n <= 12; n++) {
            Check.due("terms(4, " + n + ") of chains", chains.terms(4, n), 1 << n - 1);
        }
    }

    private static void termsAfterChanges() {
        Check.sentence("16", "How many terms of the sort have the size n, whatever was asked before");
        TreeMachines x = new TreeMachines();
        x.goal(0, 0, true);
        x.rule(0, 2, 0, 0, 0);
        Check.due("terms(4, 12) of a leaf", x.terms(4, 12), 0);
        x.rule(0, 3, 0, 0, 0);
        Check.due("terms(4, 2) of chains of 3", x.terms(4, 2), 1);
        Check.due("terms(4, 12) of chains of 3", x.terms(4, 12), 1);
        x.rule(0, 4, 0, 0, 0);
        Check.due("terms(4, 3) of chains of 3 and 4", x.terms(4, 3), 4);
        x.drop(0, 3, 0, 0, 0);
        Check.due("terms(4, 12) of chains of 4", x.terms(4, 12), 1);
        Check.due("terms(4, 3) of chains of 4", x.terms(4, 3), 1);
        x.clear(0);
        x.goal(0, 0, true);
        Check.due("terms(4, 1) after clear", x.terms(4, 1), 0);
        Check.due("terms(4, 12) after clear", x.terms(4, 12), 0);
        Check.due("terms(15, 12) after clear", x.terms(15, 12), 710383812);
    }

    private static void termsCountedOnce() {
        Check.sentence("16", "How many terms, though they reach many goals in many ways");
        TreeMachines x = Given.full(1);
        for (int state = 0; state < 4; state++) {
            x.goal(1, state, true);
        }
        for (int n = 1; n < NUMBERS_OF_ALL.length; n++) {
            Check.due("terms(2, " + n + ")", x.terms(2, n), NUMBERS_OF_ALL[n]);
            Check.due("terms(13, " + n + ")", x.terms(13, n), 0);
        }
        TreeMachines both = Given.full(0);
        for (int[] r : Given.allRules()) {
            Given.addRule(both, 1, r);
        }
        both.goal(0, 0, true);
        both.goal(1, 3, true);
        for (int n = 1; n < NUMBERS_OF_ALL.length; n++) {
            Check.due("terms(8, " + n + ") of all rules", both.terms(8, n), NUMBERS_OF_ALL[n]);
        }
    }

    private static void termsNeverMoreThanAnInt() {
        Check.sentence("16", "never more than an int holds");
        long[] all = new long[13];
        all[1] = 3;
        for (int n = 2; n <= 12; n++) {
            all[n] = 2 * all[n - 1];
            for (int left = 1; left < n - 1; left++) {
                all[n] += 3 * all[left] * all[n - 1 - left];
            }
        }
        TreeMachines x = new TreeMachines();
        Given.acceptAll(x, 0);
        Given.acceptAll(x, 1);
        for (int n = 12; n >= 1; n--) {
            Check.due("terms(8, " + n + ") of all", x.terms(8, n), all[n]);
            Check.due("terms(15, " + n + ") of all", x.terms(15, n), all[n]);
        }
        TreeMachines parts = new TreeMachines();
        Given.acceptAll(parts, 0);
        parts.drop(0, 4, 0, 0, 0);
        Given.acceptAll(parts, 1);
        parts.drop(1, 1, 0, 0, 0);
        for (int n = 1; n <= 12; n++) {
            long sum = 0;
            for (int place = 0; place < 4; place++) {
                sum += parts.terms(1 << place, n);
            }
            Check.due("terms of all four places, size " + n, sum, all[n]);
        }
    }

    private static void termsOfWrongSort() {
        Check.sentence("16", "-1 if sort is not 0 .. 15");
        TreeMachines x = new TreeMachines();
        for (int wrong : Given.outside(16)) {
            Check.due("terms(" + wrong + ", 1)", x.terms(wrong, 1), -1);
            Check.due("terms(" + wrong + ", 12)", x.terms(wrong, 12), -1);
            Check.due("terms(" + wrong + ", 13)", x.terms(wrong, 13), -1);
        }
        Check.due("terms(15, 1)", x.terms(15, 1), 3);
        Check.due("terms(0, 1)", x.terms(0, 1), 0);
    }

    private static void termsOfWrongSize() {
        Check.sentence("16", "-1 if .. n not 1 .. 12");
        TreeMachines x = new TreeMachines();
        for (int sort = 0; sort < 16; sort++) {
            Check.due("terms(" + sort + ", 0)", x.terms(sort, 0), -1);
            Check.due("terms(" + sort + ", 1)", x.terms(sort, 1), 3 * (sort & 1));
            Check.due("terms(" + sort + ", 12)", x.terms(sort, 12), 710383812 * (sort & 1));
            for (int wrong : Given.outside(13)) {
                Check.due("terms(" + sort + ", " + wrong + ")", x.terms(sort, wrong), -1);
            }
        }
    }
}
