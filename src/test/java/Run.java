/** One object and its reference, which get the same calls; of calls beyond the 512th no answer is promised. */
final class Run {
    static final int MOST_CALLS = 512;

    private final String name;
    private final TreeMachines x = new TreeMachines();
    private final Reference want = new Reference();
    private int calls = 0;

    Run(String name) {
        this.name = name;
    }

    Reference reference() {
        return want;
    }

    void call(String method, int... arguments) {
        call(new Call(method, arguments));
    }

    void call(Call call) {
        calls++;
        long got = call.on(x);
        long due = call.on(want);
        if (calls <= MOST_CALLS) {
            Check.due(name + ", call " + calls + ": " + call, got, due);
        }
    }

    /** The answer to a call of the object alone. */
    void answer(long due, String method, int... arguments) {
        calls++;
        Call call = new Call(method, arguments);
        Check.due(name + ": " + call, call.on(x), due);
    }

    /** The term that witness makes, if there is room for it. */
    void answerWitness(int sort, String due) {
        if (x.nodes() + due.length() <= 200) {
            Check.due(name + ": witness(" + sort + ")", Given.writing(x, x.witness(sort)), due);
        }
    }

    /** Compares the nodes, the newest first, as far as calls are left for it. */
    void compareNodes() {
        call("nodes");
        for (int n = want.nodes() - 1; n >= 0 && calls + 5 <= MOST_CALLS; n--) {
            for (int what = 0; what < 3; what++) {
                call("part", n, what);
            }
            call("size", n);
            call("place", n);
        }
    }
}
