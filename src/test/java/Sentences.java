/**
 * Runs one test for one sentence of ../shared/DOC.md. Each test makes its own objects, so that a
 * broken sentence is named by its own test, whatever the others do.
 */
final class Sentences {
    static final int REFUSED = -1;
    static final int FULL = -2;
    static final int MANY = -3;
    static final long NULL = 9000000000000000000L;

    /** Numbers that are no node and no edge: beside the range, where a shift of 32 wraps around, far away. */
    static final int[] NEVER_THERE = {-1, -8, -32, 12, 13, 31, 32, 33, 64, 256, Integer.MIN_VALUE, Integer.MAX_VALUE};
    /** Numbers that are no set of labels. */
    static final int[] NO_LABELS = {-1, -16, 16, 17, 31, 32, Integer.MIN_VALUE, Integer.MAX_VALUE};
    /** Numbers that are no variable. */
    static final int[] NO_VARIABLES = {-1, -4, 4, 5, 8, 32, 1000, Integer.MIN_VALUE, Integer.MAX_VALUE};

    private final Checks checks = new Checks();
    private int tests = 0;

    void test(String place, String sentence, Runnable test) {
        checks.about(place + ": \"" + sentence + "\"");
        int before = checks.checked();
        try {
            test.run();
        } catch (RuntimeException e) {
            checks.holds("threw " + e, false);
        }
        if (checks.checked() == before) {
            checks.holds("its test looks at nothing", false);
        }
        tests++;
    }

    void due(String call, long got, long want) {
        checks.due(call, got, want);
    }

    void due(String call, boolean got, boolean want) {
        checks.due(call, got, want);
    }

    void close() {
        System.out.println(tests + " sentences");
        checks.close();
    }

    // ---- objects to begin with ----

    static TrailGraph withNodes(int count) {
        TrailGraph x = new TrailGraph();
        for (int i = 0; i < count; i++) {
            x.node(0);
        }
        return x;
    }

    /** One node with so many edges of type 0 and weight 1 to itself. */
    static TrailGraph withLoops(int count) {
        TrailGraph x = withNodes(1);
        for (int i = 0; i < count; i++) {
            x.edge(0, 0, 0, 1);
        }
        return x;
    }

    /** So many nodes, and an edge of type 0 and weight 1 from each to the next. */
    static TrailGraph withPath(int count) {
        TrailGraph x = withNodes(count);
        for (int i = 0; i + 1 < count; i++) {
            x.edge(i, i + 1, 0, 1);
        }
        return x;
    }

    /** 5 * 5 * 5 * 8 = 1000 matches, each in a row of its own: nodes 0 .. 4 have label 0, variable 2 is free. */
    static TrailGraph withThousandRows() {
        TrailGraph x = withNodes(8);
        for (int node = 0; node < 5; node++) {
            x.label(node, 1);
        }
        for (int v = 0; v < 4; v++) {
            x.start(v, v == 2 ? 0 : 1);
        }
        return x;
    }

    /**
     * 1001 matches: 40 trails at node 0 with 25 choices of variables 1 and 2, and one trail at node 1
     * with one choice; without edge 4 it is 1000 of them.
     */
    static TrailGraph withThousandAndOne() {
        TrailGraph x = withNodes(5);
        for (int i = 0; i < 4; i++) {
            x.edge(0, 0, 0, 1);
        }
        x.edge(1, 1, 0, 1);
        x.set(1, 1);
        x.start(0, 0);
        x.hop(1, 0, 1, 3, 0, 0);
        x.start(1, 0);
        x.start(2, 0);
        where(x, 15, 12, 0, 14, 13, 0, 1, 13, 1, 2);
        return x;
    }

    // ---- lists of tokens ----

    static void tokens(TrailGraph x, int... list) {
        for (int token : list) {
            x.token(token);
        }
    }

    static boolean where(TrailGraph x, int... list) {
        tokens(x, list);
        return x.where();
    }

    static boolean spell(TrailGraph x, int... list) {
        tokens(x, list);
        return x.spell();
    }

    static int[] repeated(int token, int times, int... then) {
        int[] list = new int[times + then.length];
        java.util.Arrays.fill(list, token);
        System.arraycopy(then, 0, list, times, then.length);
        return list;
    }
}
