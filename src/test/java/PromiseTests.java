/** For each promise of ../shared/DOC.md its ordinary inputs, the edges it names, and wrong inputs. */
public final class PromiseTests {
    private static final int REFUSED = -1;
    private static final int FULL = -2;
    private static final int MANY = -3;
    private static final long NULL = 9000000000000000000L;
    private static final int[] WRONG_NODES = {-1, 5, 7, 8, 9, 31, 32, 40, Integer.MIN_VALUE, Integer.MAX_VALUE};

    private static final Checks CHECKS = new Checks();

    public static void main(String[] args) {
        newObject();
        node();
        set();
        clear();
        label();
        edge();
        cut();
        remove();
        begin();
        commit();
        rollback();
        forget();
        start();
        hop();
        token();
        where();
        conditions();
        spell();
        matches();
        trails();
        rows();
        row();
        total();
        least();
        walk();
        reach();
        property();
        there();
        orderAndLimits();
        CHECKS.close();
    }

    // ---- help ----

    private static void promise(int number, String name) {
        CHECKS.about("promise " + number + ", " + name);
    }

    private static void due(String call, long got, long want) {
        CHECKS.due(call, got, want);
    }

    private static void due(String call, boolean got, boolean want) {
        CHECKS.due(call, got, want);
    }

    private static TrailGraph withNodes(int count) {
        TrailGraph x = new TrailGraph();
        for (int i = 0; i < count; i++) {
            x.node(0);
        }
        return x;
    }

    /** Nodes 0 .. 4; 0 -> 1 -> 2 -> 3 of type 0, 0 -> 2 of type 1, 3 -> 3 of type 2, weights 1, 2, 4, 8, 16. */
    private static TrailGraph chain() {
        TrailGraph x = withNodes(5);
        x.edge(0, 1, 0, 1);
        x.edge(1, 2, 0, 2);
        x.edge(2, 3, 0, 4);
        x.edge(0, 2, 1, 8);
        x.edge(3, 3, 2, 16);
        return x;
    }

    private static void tokens(TrailGraph x, int... tokens) {
        for (int i = 0; i < tokens.length; i++) {
            due("token(" + tokens[i] + ")", x.token(tokens[i]), i + 1);
        }
    }

    private static void condition(TrailGraph x, boolean want, int... tokens) {
        tokens(x, tokens);
        due("where() of " + java.util.Arrays.toString(tokens), x.where(), want);
    }

    private static void expression(TrailGraph x, boolean want, int... tokens) {
        tokens(x, tokens);
        due("spell() of " + java.util.Arrays.toString(tokens), x.spell(), want);
    }

    private static int[] repeated(int token, int times, int... then) {
        int[] list = new int[times + then.length];
        java.util.Arrays.fill(list, token);
        System.arraycopy(then, 0, list, times, then.length);
        return list;
    }

    // ---- the promises ----

    private static void newObject() {
        promise(1, "a new object");
        TrailGraph x = new TrailGraph();
        due("there()", x.there(), 0);
        due("commit()", x.commit(), REFUSED);
        due("forget()", x.forget(), 0);
        due("matches()", x.matches(), 0);
        due("rows()", x.rows(), 0);
        due("row(0, 0)", x.row(0, 0), REFUSED);
        due("total(0)", x.total(0), NULL);
        due("least()", x.least(), REFUSED);
        due("hop without a part", x.hop(1, 0, 1, 1, 0, 0), REFUSED);
        due("the first token", x.token(0), 1);
        due("node(0)", x.node(0), 0);
        due("walk(0, 0) without an expression", x.walk(0, 0), REFUSED);
        due("reach(0) without an expression", x.reach(0), 0);
        x.start(0, 0);
        due("matches() without a condition", x.matches(), 1);
        due("REFUSED", TrailGraph.REFUSED, REFUSED);
        due("FULL", TrailGraph.FULL, FULL);
        due("MANY", TrailGraph.MANY, MANY);
        due("NULL", TrailGraph.NULL, NULL);
    }

    private static void node() {
        promise(2, "node");
        TrailGraph x = new TrailGraph();
        due("node(-1)", x.node(-1), REFUSED);
        due("node(16)", x.node(16), REFUSED);
        due("there()", x.there(), 0);
        for (int i = 0; i < 8; i++) {
            due("node(" + (i + 8) + ")", x.node(i + 8), i);
            due("label", x.label(i, i), i + 8);
        }
        due("node(0) with 8", x.node(0), FULL);
        due("there()", x.there(), 255);
        due("label of the last", x.label(7, 0), 7);
        x.remove(5, false);
        x.remove(2, false);
        due("the least free number", x.node(15), 2);
        due("its labels", x.label(2, 15), 15);
        due("its property", x.property(2), NULL);
        due("the next free number", x.node(0), 5);
        x.set(4, 12);
        x.remove(4, false);
        due("a number again", x.node(0), 4);
        due("its property", x.property(4), NULL);
    }

    private static void set() {
        promise(3, "set");
        TrailGraph x = withNodes(5);
        due("set(0, 3)", x.set(0, 3), true);
        due("property(0)", x.property(0), 3);
        due("set(0, 0)", x.set(0, 0), true);
        due("property(0)", x.property(0), 0);
        due("set(1, least int)", x.set(1, Integer.MIN_VALUE), true);
        due("property(1)", x.property(1), Integer.MIN_VALUE);
        due("set(1, greatest int)", x.set(1, Integer.MAX_VALUE), true);
        due("property(1)", x.property(1), Integer.MAX_VALUE);
        due("property(0)", x.property(0), 0);
        due("property(2)", x.property(2), NULL);
        for (int node : WRONG_NODES) {
            due("set(" + node + ", 1)", x.set(node, 1), false);
        }
        x.remove(2, false);
        due("set of a removed node", x.set(2, 1), false);
        x.node(0);
        due("property after it came again", x.property(2), NULL);
    }

    private static void clear() {
        promise(4, "clear");
        TrailGraph x = withNodes(5);
        x.set(0, 3);
        x.set(1, 4);
        due("clear(0)", x.clear(0), true);
        due("property(0)", x.property(0), NULL);
        due("property(1)", x.property(1), 4);
        due("clear(0) again", x.clear(0), true);
        due("clear of a node that never had one", x.clear(4), true);
        for (int node : WRONG_NODES) {
            due("clear(" + node + ")", x.clear(node), false);
        }
        due("property(1)", x.property(1), 4);
    }

    private static void label() {
        promise(5, "label");
        TrailGraph x = withNodes(5);
        due("label(1, 15)", x.label(1, 15), 0);
        due("label(1, 6)", x.label(1, 6), 15);
        due("label(1, -1)", x.label(1, -1), REFUSED);
        due("label(1, 16)", x.label(1, 16), REFUSED);
        due("label(1, 0)", x.label(1, 0), 6);
        due("label(0, 1)", x.label(0, 1), 0);
        for (int node : WRONG_NODES) {
            due("label(" + node + ", 1)", x.label(node, 1), REFUSED);
        }
        due("label(0, 0)", x.label(0, 0), 1);
    }

    private static void edge() {
        promise(6, "edge");
        TrailGraph x = withNodes(5);
        for (int node : WRONG_NODES) {
            due("edge(" + node + ", 0, 0, 0)", x.edge(node, 0, 0, 0), REFUSED);
            due("edge(0, " + node + ", 0, 0)", x.edge(0, node, 0, 0), REFUSED);
        }
        due("type -1", x.edge(0, 0, -1, 0), REFUSED);
        due("type 3", x.edge(0, 0, 3, 0), REFUSED);
        due("weight -1", x.edge(0, 0, 0, -1), REFUSED);
        due("weight 101", x.edge(0, 0, 0, 101), REFUSED);
        due("there()", x.there(), 31);
        for (int i = 0; i < 12; i++) {
            due("edge " + i, x.edge(i % 5, (i + 1) % 5, i % 3, i == 0 ? 0 : 100), i);
        }
        due("edge with 12", x.edge(0, 1, 0, 0), FULL);
        due("there()", x.there(), 31 + 256 * 4095);
        x.cut(9);
        x.cut(3);
        due("the least free number", x.edge(0, 0, 2, 50), 3);
        due("the next free number", x.edge(4, 2, 2, 50), 9);
        due("edge with 12", x.edge(0, 1, 0, 0), FULL);
    }

    private static void cut() {
        promise(7, "cut");
        TrailGraph x = chain();
        for (int edge : new int[] {-1, 5, 11, 12, 13, 32, 33, Integer.MIN_VALUE, Integer.MAX_VALUE}) {
            due("cut(" + edge + ")", x.cut(edge), false);
        }
        due("there()", x.there(), 31 + 256 * 31);
        due("cut(1)", x.cut(1), true);
        due("there()", x.there(), 31 + 256 * 29);
        due("cut(1) again", x.cut(1), false);
        expression(x, true, 0);
        due("walk(1, 2)", x.walk(1, 2), REFUSED);
        due("walk(0, 1)", x.walk(0, 1), 1);
        TrailGraph full = withNodes(1);
        for (int i = 0; i < 12; i++) {
            full.edge(0, 0, 0, 0);
        }
        due("cut(12) with 12", full.cut(12), false);
        due("cut(11) with 12", full.cut(11), true);
        due("there()", full.there(), 1 + 256 * 2047);
    }

    private static void remove() {
        promise(8, "remove");
        TrailGraph x = chain();
        for (int node : WRONG_NODES) {
            due("remove(" + node + ", true)", x.remove(node, true), REFUSED);
            due("remove(" + node + ", false)", x.remove(node, false), REFUSED);
        }
        due("an end of edges only", x.remove(2, false), REFUSED);
        due("a start of edges only", x.remove(0, false), REFUSED);
        due("there()", x.there(), 31 + 256 * 31);
        due("a node without edges", x.remove(4, false), 0);
        due("remove(4, true) again", x.remove(4, true), REFUSED);
        due("there()", x.there(), 15 + 256 * 31);
        due("a node with an edge to itself, which counts once", x.remove(3, true), 2);
        due("there()", x.there(), 7 + 256 * 11);
        due("remove(0, true)", x.remove(0, true), 2);
        due("there()", x.there(), 6 + 256 * 2);
        due("remove(1, true)", x.remove(1, true), 1);
        due("without edges, detached", x.remove(2, true), 0);
        due("there()", x.there(), 0);
        TrailGraph loop = withNodes(1);
        loop.edge(0, 0, 0, 0);
        due("an edge to itself is an edge", loop.remove(0, false), REFUSED);
        due("it goes", loop.remove(0, true), 1);
    }

    private static void begin() {
        promise(9, "begin");
        TrailGraph x = withNodes(2);
        for (int level = 1; level <= 4; level++) {
            due("begin()", x.begin(), level);
            due("there()", x.there(), 3 + (level << 20));
        }
        due("begin() at 4", x.begin(), FULL);
        due("there()", x.there(), 3 + (4 << 20));
        due("rollback()", x.rollback(), 3);
        due("begin()", x.begin(), 4);
        due("begin()", x.begin(), FULL);
    }

    private static void commit() {
        promise(10, "commit");
        TrailGraph x = new TrailGraph();
        due("commit() at 0", x.commit(), REFUSED);
        x.begin();
        x.begin();
        x.node(3);
        x.set(0, 7);
        due("commit()", x.commit(), 1);
        due("property(0)", x.property(0), 7);
        due("there()", x.there(), 1 + (1 << 20));
        due("commit()", x.commit(), 0);
        due("label(0, 0)", x.label(0, 0), 3);
        due("there()", x.there(), 1);
        due("commit()", x.commit(), REFUSED);
        due("rollback()", x.rollback(), REFUSED);
        due("there()", x.there(), 1);
    }

    private static void rollback() {
        promise(11, "rollback");
        TrailGraph x = chain();
        due("rollback() at 0", x.rollback(), REFUSED);
        due("there()", x.there(), 31 + 256 * 31);
        x.set(0, 5);
        x.label(1, 9);
        x.begin();
        x.set(0, 6);
        x.set(2, 1);
        x.begin();
        x.label(1, 2);
        x.clear(0);
        x.remove(3, true);
        x.cut(0);
        x.edge(4, 4, 2, 50);
        x.node(8);
        x.node(4);
        x.begin();
        x.remove(1, true);
        due("commit within", x.commit(), 2);
        due("rollback()", x.rollback(), 1);
        due("there()", x.there(), 31 + 256 * 31 + (1 << 20));
        due("property(0)", x.property(0), 6);
        due("property(2)", x.property(2), 1);
        due("label(1, 0)", x.label(1, 0), 9);
        due("label(3, 1)", x.label(3, 1), 0);
        due("rollback()", x.rollback(), 0);
        due("property(0)", x.property(0), 5);
        due("property(2)", x.property(2), NULL);
        due("label(1, 9)", x.label(1, 9), 9);
        due("label(3, 0)", x.label(3, 0), 0);
        due("there()", x.there(), 31 + 256 * 31);
        x.start(0, 0);
        x.hop(1, 0, 3, 3, 1, 0);
        due("the edges are the old ones", x.row(0, 1), 3);
        due("their weights too", x.least(), 7);
        edgesComeBack();
        levelsAreApart();
        queryStays();
    }

    private static void edgesComeBack() {
        TrailGraph x = withNodes(8);
        for (int i = 0; i < 12; i++) {
            x.edge(i % 8, 7 - i % 8, i % 3, i * 9);
        }
        x.begin();
        for (int i = 0; i < 8; i++) {
            x.remove(i, true);
        }
        for (int i = 0; i < 8; i++) {
            x.node(1);
        }
        for (int i = 0; i < 12; i++) {
            x.edge(0, 0, 0, 100);
        }
        due("rollback() of all", x.rollback(), 0);
        for (int i = 0; i < 12; i++) {
            x.forget();
            x.label(i % 8, 1);
            x.start(0, 1);
            x.hop(1 << i % 3, 0, 1, 1, 1, 0);
            due("edge " + i + " leads", x.row(0, 1), 7 - i % 8);
            x.label(i % 8, 0);
        }
        x.forget();
        x.label(7, 1);
        x.start(0, 0);
        x.hop(2, 0, 1, 1, 1, 1);
        due("no edge of this type", x.matches(), 0);
        x.forget();
        x.start(0, 1);
        x.hop(2, 0, 1, 1, 1, 0);
        due("the weight of edge 7", x.least(), 63);
    }

    private static void levelsAreApart() {
        TrailGraph x = withNodes(8);
        for (int level = 0; level < 4; level++) {
            x.set(7, level);
            x.set(0, 10 + level);
            x.edge(level, 7, 0, level);
            x.begin();
        }
        x.clear(7);
        x.clear(0);
        for (int level = 3; level >= 0; level--) {
            due("rollback()", x.rollback(), level);
            due("property(7)", x.property(7), level);
            due("property(0)", x.property(0), 10 + level);
            due("there()", x.there(), 255 + 256 * ((2 << level) - 1) + (level << 20));
        }
    }

    private static void queryStays() {
        TrailGraph x = withNodes(3);
        x.begin();
        x.start(0, 0);
        condition(x, true, 16, 12, 0);
        expression(x, true, 12, 0);
        x.token(1);
        x.set(1, 1);
        due("matches()", x.matches(), 1);
        due("rollback()", x.rollback(), 0);
        due("the condition stays", x.matches(), 0);
        due("the expression stays", x.walk(2, 2), 0);
        due("what is pending stays", x.token(2), 2);
        due("the parts stay", x.forget(), 1);
    }

    private static void forget() {
        promise(12, "forget");
        TrailGraph x = withNodes(3);
        due("forget()", x.forget(), 0);
        x.start(0, 0);
        x.hop(1, 0, 1, 3, 1, 0);
        x.hop(1, 0, 1, 2, 1, 0);
        condition(x, true, 10, 1001, 1001);
        expression(x, true, 14, 2);
        x.token(1);
        due("forget()", x.forget(), 3);
        due("forget() again", x.forget(), 0);
        due("matches()", x.matches(), 0);
        due("rows()", x.rows(), 0);
        due("hop without a part", x.hop(1, 0, 1, 1, 0, 0), REFUSED);
        due("start(2, 0)", x.start(2, 0), 1);
        due("the condition is gone", x.matches(), 3);
        due("the old variables are gone", x.row(0, 0), REFUSED);
        due("the highs are gone", x.hop(1, 0, 1, 3, 1, 0), 2);
        due("what is pending stays", x.token(0), 2);
        due("the expression stays", x.walk(0, 0), 0);
        due("the graph stays", x.there(), 7);
        due("forget()", x.forget(), 2);
        due("start(0, 0) where a hop was", x.start(0, 0), 1);
        due("start(1, 0) where a hop was", x.start(1, 0), 2);
        due("the old hop does not count", x.hop(1, 0, 3, 3, 2, 0), 3);
    }

    private static void start() {
        promise(13, "start");
        TrailGraph x = withNodes(4);
        for (int v : new int[] {-1, 4, 5, Integer.MIN_VALUE, Integer.MAX_VALUE}) {
            due("start(" + v + ", 0)", x.start(v, 0), REFUSED);
        }
        due("start(0, -1)", x.start(0, -1), REFUSED);
        due("start(0, 16)", x.start(0, 16), REFUSED);
        due("forget()", x.forget(), 0);
        for (int i = 0; i < 6; i++) {
            due("start", x.start(i % 4, i == 0 ? 15 : 0), i + 1);
        }
        due("start with 6", x.start(0, 0), FULL);
        due("forget()", x.forget(), 6);
        x.label(1, 5);
        x.label(2, 7);
        x.label(3, 2);
        x.start(3, 5);
        due("all the labels", x.matches(), 2);
        due("row(0, 3)", x.row(0, 3), 1);
        due("row(1, 3)", x.row(1, 3), 2);
        due("start(3, 2)", x.start(3, 2), 2);
        due("of the same variable again", x.matches(), 1);
        due("row(0, 3)", x.row(0, 3), 2);
        presentVariable();
    }

    private static void presentVariable() {
        TrailGraph x = chain();
        x.start(0, 0);
        x.start(1, 0);
        x.hop(2, 0, 1, 1, 2, 0);
        due("the hop starts at variable 1", x.matches(), 5);
        due("row(4, 0)", x.row(4, 0), 4);
        due("row(4, 1)", x.row(4, 1), 0);
        due("row(4, 2)", x.row(4, 2), 2);
        x.start(0, 0);
        x.hop(4, 0, 1, 1, 3, 0);
        due("a start goes back to variable 0", x.matches(), 1);
        due("row(0, 0)", x.row(0, 0), 3);
        due("row(0, 3)", x.row(0, 3), 3);
    }

    private static void hop() {
        promise(14, "hop");
        TrailGraph x = chain();
        due("no part", x.hop(1, 0, 1, 1, 1, 0), REFUSED);
        x.start(0, 0);
        int[][] wrong = {
            {0, 0, 1, 1, 1, 0}, {8, 0, 1, 1, 1, 0}, {-1, 0, 1, 1, 1, 0}, {1, -1, 1, 1, 1, 0}, {1, 3, 1, 1, 1, 0},
            {1, 0, 0, 1, 1, 0}, {1, 0, 0, 0, 1, 0}, {1, 0, -1, 2, 1, 0}, {1, 0, 2, 1, 1, 0}, {1, 0, 3, 2, 1, 0},
            {1, 0, 1, 4, 1, 0}, {1, 0, 4, 4, 1, 0}, {1, 0, 1, Integer.MAX_VALUE, 1, 0}, {1, 0, 1, 1, -1, 0},
            {1, 0, 1, 1, 4, 0}, {1, 0, 1, 1, 1, -1}, {1, 0, 1, 1, 1, 16}, {1, 0, Integer.MIN_VALUE, 1, 1, 0},
        };
        for (int[] w : wrong) {
            due("hop" + java.util.Arrays.toString(w), x.hop(w[0], w[1], w[2], w[3], w[4], w[5]), REFUSED);
        }
        due("one part still", x.forget(), 1);
        x.start(0, 0);
        due("hop(7, 2, 1, 1, 3, 15)", x.hop(7, 2, 1, 1, 3, 15), 2);
        due("hop(1, 0, 3, 3, 0, 0)", x.hop(1, 0, 3, 3, 0, 0), 3);
        due("highs 6", x.hop(1, 0, 1, 2, 0, 0), REFUSED);
        due("highs 5", x.hop(1, 0, 1, 1, 0, 0), 4);
        due("highs 6", x.hop(1, 0, 1, 1, 0, 0), REFUSED);
        x.forget();
        x.start(0, 0);
        for (int i = 2; i <= 6; i++) {
            due("hop of one edge", x.hop(1, 0, 1, 1, 0, 0), i);
        }
        x.forget();
        for (int i = 0; i < 6; i++) {
            x.start(0, 0);
        }
        due("hop with 6", x.hop(1, 0, 1, 1, 0, 0), FULL);
        due("forget()", x.forget(), 6);
    }

    private static void token() {
        promise(15, "token");
        TrailGraph x = withNodes(1);
        int[] wrong = {-1, 6, 7, 8, 9, 17, 18, 999, 11000, Integer.MIN_VALUE, Integer.MAX_VALUE};
        for (int t : wrong) {
            due("token(" + t + ")", x.token(t), REFUSED);
        }
        tokens(x, 0, 5, 10, 16, 1000, 10999, 3, 4, 13, 15, 1, 2);
        due("token(0) with 12", x.token(0), REFUSED);
        due("where()", x.where(), false);
        due("token(0)", x.token(0), 1);
        for (int t : wrong) {
            due("token(" + t + ")", x.token(t), REFUSED);
        }
        due("spell() of 0 alone", x.spell(), true);
    }

    private static void where() {
        promise(16, "where");
        TrailGraph x = withNodes(4);
        x.set(1, 5);
        x.set(2, 9999);
        due("where() without tokens and parts", x.where(), true);
        condition(x, false, 12, 0);
        condition(x, true, 12, 1000);
        x.start(0, 0);
        due("matches()", x.matches(), 0);
        due("where() without tokens", x.where(), true);
        due("matches()", x.matches(), 4);
        condition(x, true, 11, 0, 1005);
        due("matches()", x.matches(), 1);
        int[][] none = {
            {0}, {1005}, {4}, {10}, {10, 0}, {11, 0, 0, 0}, {12}, {12, 0, 0}, {13, 0}, {13, 0, 1005}, {13, 1005, 0},
            {14}, {14, 12, 0}, {15, 12, 0}, {16}, {16, 0}, {16, 12, 0, 12, 0}, {12, 0, 12, 0}, {10, 4, 0},
            {10, 0, 4}, {12, 5}, {11, 12, 0, 0}, {10, 10, 0, 0, 0}, {13, 12, 0, 0}, {14, 0, 12, 0}, {14, 12, 0, 0},
            {12, 10}, {13, 0, 16}, {12, 1}, {10, 0, 1}, {11, 1, 0}, {13, 0, 1}, {13, 1, 0}, {15, 12, 0, 12, 3},
            {13, 4, 4}, {13, 5, 5}, {0, 0, 0}, {4, 0, 0}, {1005, 0, 0}, {12, 0, 16}, {12, 0, 12, 0, 14}, {12, 0, 14}, {14, 12, 0, 14, 12, 0}, repeated(16, 12), repeated(14, 12), repeated(0, 12),
        };
        for (int[] list : none) {
            condition(x, false, list);
            due("the condition stays", x.matches(), 1);
        }
        condition(x, true, repeated(16, 10, 12, 0));
        due("matches()", x.matches(), 2);
        condition(x, true, 14, 14, 14, 12, 0, 12, 0, 12, 0, 16, 12, 1001);
        condition(x, true, 10, 0, 10999);
        due("matches()", x.matches(), 1);
        x.hop(1, 0, 1, 1, 3, 0);
        condition(x, true, 13, 0, 3);
        condition(x, false, 13, 0, 2);
        due("where() without tokens", x.where(), true);
    }

    /** Each operator, with the values of nodes 0, 1, 2, 3: NULL, 5, 7, -2. */
    private static void conditions() {
        promise(16, "conditions");
        TrailGraph x = withNodes(4);
        x.set(1, 5);
        x.set(2, 7);
        x.set(3, -2);
        x.start(0, 0);
        rowsOf(x, 0b1010, 10, 0, 1007);
        rowsOf(x, 0b0100, 10, 1005, 0);
        rowsOf(x, 0b1000, 10, 0, 1000);
        rowsOf(x, 0b0000, 10, 0, 0);
        rowsOf(x, 0b1110, 11, 0, 0);
        rowsOf(x, 0b0010, 11, 0, 1005);
        rowsOf(x, 0b0100, 11, 1007, 0);
        rowsOf(x, 0b1111, 11, 1000, 1000);
        rowsOf(x, 0b0000, 11, 1000, 1001);
        rowsOf(x, 0b1111, 10, 1000, 10999);
        rowsOf(x, 0b0001, 12, 0);
        rowsOf(x, 0b0000, 12, 1000);
        rowsOf(x, 0b1111, 13, 0, 0);
        rowsOf(x, 0b1110, 16, 12, 0);
        rowsOf(x, 0b1100, 16, 11, 0, 1005);
        rowsOf(x, 0b1110, 16, 16, 11, 0, 0);
        rowsOf(x, 0b0010, 14, 10, 0, 1007, 10, 1000, 0);
        rowsOf(x, 0b1110, 15, 10, 0, 1007, 10, 1000, 0);
        threeValues();
        betweenVariables();
    }

    private static void rowsOf(TrailGraph x, int want, int... tokens) {
        condition(x, true, tokens);
        int got = 0;
        for (int k = 0; k < x.rows(); k++) {
            got |= 1 << x.row(k, 0);
        }
        due("nodes for " + java.util.Arrays.toString(tokens), got, want);
    }

    /** All pairs of false, unknown and true under AND and OR, and whether what comes is true, false or neither. */
    private static void threeValues() {
        TrailGraph x = withNodes(1);
        x.start(0, 0);
        int[][] values = {{11, 1000, 1001}, {11, 0, 1000}, {11, 1000, 1000}};
        for (int one = 0; one < 3; one++) {
            for (int other = 0; other < 3; other++) {
                for (int operator = 14; operator <= 15; operator++) {
                    int want = operator == 14 ? Math.min(one, other) : Math.max(one, other);
                    int[] a = values[one];
                    int[] b = values[other];
                    condition(x, true, operator, a[0], a[1], a[2], b[0], b[1], b[2]);
                    due(one + " " + operator + " " + other + " is true", x.matches(), want == 2 ? 1 : 0);
                    condition(x, true, 16, operator, a[0], a[1], a[2], b[0], b[1], b[2]);
                    due(one + " " + operator + " " + other + " is false", x.matches(), want == 0 ? 1 : 0);
                }
            }
        }
    }

    private static void betweenVariables() {
        TrailGraph x = chain();
        x.set(0, 1);
        x.set(1, 1);
        x.set(2, 0);
        x.start(1, 0);
        x.start(3, 0);
        condition(x, true, 13, 1, 3);
        due("SAME", x.matches(), 5);
        condition(x, true, 16, 13, 3, 1);
        due("NOT SAME", x.matches(), 20);
        condition(x, true, 11, 1, 3);
        due("=", x.matches(), 5);
        condition(x, true, 10, 1, 3);
        due("<", x.matches(), 2);
        due("row(0, 1)", x.row(0, 1), 2);
        due("row(0, 3)", x.row(0, 3), 0);
        condition(x, true, 14, 16, 12, 1, 12, 3);
        due("NULL? of the other", x.matches(), 6);
        x.hop(1, 0, 1, 1, 0, 0);
        condition(x, true, 10, 0, 3);
        due("over a hop, with any node for variable 1", x.matches(), 5);
        due("row(4, 0)", x.row(4, 0), 2);
        due("row(4, 1)", x.row(4, 1), 4);
        due("row(4, 3)", x.row(4, 3), 1);
    }

    private static void spell() {
        promise(17, "spell");
        TrailGraph x = chain();
        due("spell() without tokens", x.spell(), false);
        expression(x, true, 0);
        due("walk(0, 1)", x.walk(0, 1), 1);
        due("spell() without tokens", x.spell(), false);
        int[][] none = {
            {0, 0}, {10}, {10, 0}, {11, 0}, {12}, {13}, {14}, {10, 0, 0, 0}, {12, 0, 0}, {15}, {16}, {16, 0},
            {15, 0, 0}, {0, 12}, {0, 0, 10}, {0, 0, 11}, {1000}, {10, 0, 1000}, {12, 10999}, {12, 16}, {10, 0, 15}, {11, 11, 0, 0}, repeated(10, 10),
            repeated(0, 10), repeated(12, 10), repeated(12, 10, 0), repeated(14, 11, 2), {10, 10, 10, 10, 10, 1, 1, 1, 1, 1, 1},
        };
        for (int[] list : none) {
            expression(x, false, list);
            due("the expression stays", x.walk(0, 1), 1);
            due("the expression stays", x.walk(0, 0), REFUSED);
        }
        expression(x, true, repeated(12, 9, 0));
        due("walk(0, 3)", x.walk(0, 3), 3);
        expression(x, true, 12, 10, 0, 10, 0, 10, 0, 11, 2, 5);
        due("walk(0, 3)", x.walk(0, 3), 4);
        for (int edge = 0; edge <= 5; edge++) {
            expression(x, true, edge);
        }
        due("walk(3, 3) by 5", x.walk(3, 3), 1);
    }

    private static void matches() {
        promise(18, "matches");
        TrailGraph x = withNodes(8);
        due("without parts", x.matches(), 0);
        x.start(0, 0);
        due("8", x.matches(), 8);
        x.start(1, 0);
        due("64", x.matches(), 64);
        x.start(2, 0);
        due("512", x.matches(), 512);
        x.start(3, 0);
        due("4096", x.matches(), MANY);
        condition(x, true, 13, 0, 1);
        due("512 under the condition", x.matches(), 512);
        condition(x, true, 15, 13, 0, 1, 13, 0, 2);
        due("960 under the condition", x.matches(), 960);
        condition(x, true, 15, 13, 0, 1, 15, 13, 0, 2, 13, 0, 3);
        due("1352 under the condition", x.matches(), MANY);
        condition(x, true, 10, 1000, 1000);
        due("none under the condition", x.matches(), 0);
        thousand();
        thousandAndOne();
        emptyGraph();
    }

    private static void thousand() {
        TrailGraph x = withNodes(5);
        for (int i = 0; i < 8; i++) {
            x.edge(0, 0, 0, i);
        }
        x.start(0, 0);
        x.hop(1, 0, 1, 1, 0, 0);
        x.start(1, 0);
        x.start(2, 0);
        x.start(3, 0);
        due("8 * 5 * 5 * 5 is not too many", x.matches(), 1000);
        due("rows()", x.rows(), 125);
        due("least()", x.least(), 0);
        due("row(124, 3)", x.row(124, 3), 4);
        x.set(0, 3);
        due("total(0)", x.total(0), 3000);
        due("total(1)", x.total(1), 600);
        x.edge(0, 0, 0, 0);
        due("9 * 5 * 5 * 5", x.matches(), MANY);
        TrailGraph y = withNodes(8);
        for (int node = 0; node < 5; node++) {
            y.label(node, 1);
        }
        for (int v = 0; v < 4; v++) {
            y.start(v, v == 2 ? 0 : 1);
        }
        due("1000 matches, each with its own nodes", y.matches(), 1000);
        due("rows()", y.rows(), 1000);
        due("row(999, 2)", y.row(999, 2), 7);
        due("row(999, 0)", y.row(999, 0), 4);
        due("row(1000, 0)", y.row(1000, 0), REFUSED);
        y.set(7, 2);
        due("total(2)", y.total(2), 250);
    }

    /** 40 trails of node 0 with 25 choices for the others, and one trail of node 1 with one choice. */
    private static void thousandAndOne() {
        TrailGraph x = withNodes(5);
        for (int i = 0; i < 4; i++) {
            x.edge(0, 0, 0, 1);
        }
        x.edge(1, 1, 0, 1);
        x.set(1, 1);
        x.start(0, 0);
        x.hop(1, 0, 1, 3, 0, 0);
        x.start(1, 0);
        x.start(2, 0);
        condition(x, true, 15, 12, 0, 14, 13, 0, 1, 13, 1, 2);
        due("1001 matches", x.matches(), MANY);
        due("rows()", x.rows(), MANY);
        due("least()", x.least(), REFUSED);
        due("total(0)", x.total(0), NULL);
        due("row(0, 0)", x.row(0, 0), REFUSED);
        x.cut(4);
        due("1000 matches", x.matches(), 1000);
        due("rows()", x.rows(), 25);
        due("least()", x.least(), 1);
    }

    private static void emptyGraph() {
        TrailGraph x = new TrailGraph();
        x.start(0, 0);
        due("without nodes", x.matches(), 0);
        due("rows()", x.rows(), 0);
        due("least()", x.least(), REFUSED);
        due("total(0)", x.total(0), NULL);
        due("row(0, 0)", x.row(0, 0), REFUSED);
        x.node(2);
        x.node(0);
        x.remove(0, false);
        due("one node, not the first", x.matches(), 1);
        due("row(0, 0)", x.row(0, 0), 1);
        x.label(1, 13);
        x.start(1, 2);
        due("a removed node has no labels", x.matches(), 0);
    }

    private static int matchesOf(TrailGraph x, int types, int direction, int low, int high, boolean closed) {
        x.forget();
        x.start(0, 0);
        x.hop(types, direction, low, high, closed ? 0 : 1, 0);
        return x.matches();
    }

    private static void trails() {
        promise(18, "trails");
        TrailGraph x = chain();
        due("type 0 along", matchesOf(x, 1, 0, 1, 1, false), 3);
        due("type 1 along", matchesOf(x, 2, 0, 1, 1, false), 1);
        due("type 2 along", matchesOf(x, 4, 0, 1, 1, false), 1);
        due("types 0 and 2 along", matchesOf(x, 5, 0, 1, 1, false), 4);
        due("type 0 against", matchesOf(x, 1, 1, 1, 1, false), 3);
        due("row(0, 1) against", x.row(0, 1), 0);
        due("row(0, 0) against", x.row(0, 0), 1);
        due("type 0 either way", matchesOf(x, 1, 2, 1, 1, false), 6);
        due("an edge to itself either way is one choice", matchesOf(x, 4, 2, 1, 1, false), 1);
        due("two of type 0", matchesOf(x, 1, 0, 2, 2, false), 2);
        due("three of type 0", matchesOf(x, 1, 0, 3, 3, false), 1);
        due("one to three of type 0", matchesOf(x, 1, 0, 1, 3, false), 6);
        due("two to three of type 0", matchesOf(x, 1, 0, 2, 3, false), 3);
        due("one to two of type 0", matchesOf(x, 1, 0, 1, 2, false), 5);
        due("no edge twice within a hop", matchesOf(x, 4, 2, 2, 3, false), 0);
        due("no edge there and back", matchesOf(x, 2, 2, 2, 2, false), 0);
        due("closed, along", matchesOf(x, 7, 0, 1, 3, true), 1);
        due("closed, either way: the triangle from three nodes twice", matchesOf(x, 7, 2, 3, 3, true), 6);
        due("closed, either way", matchesOf(x, 7, 2, 1, 3, true), 7);
        manyHops(x);
        hopsApart();
        labelsAtTheEnd();
    }

    private static void manyHops(TrailGraph x) {
        x.forget();
        x.start(0, 0);
        x.hop(1, 0, 1, 1, 1, 0);
        x.hop(1, 0, 1, 1, 2, 0);
        due("two hops", x.matches(), 2);
        x.hop(1, 1, 1, 1, 3, 0);
        due("no edge twice among hops", x.matches(), 0);
        x.forget();
        x.start(0, 0);
        x.hop(7, 0, 1, 2, 1, 0);
        x.hop(7, 2, 1, 3, 2, 0);
        x.start(3, 0);
        x.start(0, 0);
        due("a query of five parts", x.matches(), 5 * 23);
        x.forget();
        x.start(0, 0);
        for (int i = 0; i < 5; i++) {
            x.hop(7, 2, 1, 1, i % 2 == 0 ? 1 : 2, 0);
        }
        due("a variable again is the same node", x.matches(), 0);
        x.edge(0, 0, 0, 1);
        x.edge(0, 0, 0, 1);
        x.edge(0, 0, 0, 1);
        x.edge(0, 0, 0, 1);
        x.edge(0, 0, 0, 1);
        due("five edges from a node to itself, or four after one from elsewhere", x.matches(), 3 * 120);
        due("rows()", x.rows(), 3);
        due("least()", x.least(), 5);
        x.forget();
        x.start(0, 0);
        x.hop(1, 0, 1, 2, 0, 0);
        x.hop(1, 2, 1, 1, 0, 0);
        due("each hop has its own edges", x.matches(), 20 + 60);
        x.hop(1, 0, 1, 2, 0, 0);
        due("and three hops", x.matches(), 60 + 2 * 120 + 120);
    }

    private static void hopsApart() {
        TrailGraph x = withNodes(4);
        x.edge(0, 1, 0, 5);
        x.edge(2, 3, 0, 7);
        x.start(0, 0);
        x.hop(1, 0, 1, 1, 1, 0);
        x.start(2, 0);
        x.hop(1, 0, 1, 1, 3, 0);
        due("two hops that do not touch, each edge once", x.matches(), 2);
        due("rows()", x.rows(), 2);
        due("row(0, 0)", x.row(0, 0), 0);
        due("row(0, 2)", x.row(0, 2), 2);
        due("row(1, 0)", x.row(1, 0), 2);
        due("row(1, 3)", x.row(1, 3), 1);
        due("least()", x.least(), 12);
        x.edge(0, 1, 0, 1);
        due("parallel edges", x.matches(), 6);
        due("rows()", x.rows(), 3);
        due("least()", x.least(), 6);
    }

    private static void labelsAtTheEnd() {
        TrailGraph x = chain();
        x.label(2, 3);
        x.label(3, 2);
        x.start(0, 0);
        x.hop(7, 0, 1, 1, 1, 2);
        due("an end with label 1", x.matches(), 4);
        x.hop(7, 2, 1, 1, 2, 3);
        due("an end with labels 0 and 1", x.matches(), 1);
        due("row(0, 0)", x.row(0, 0), 3);
        due("row(0, 1)", x.row(0, 1), 3);
        due("row(0, 2)", x.row(0, 2), 2);
        x.label(2, 1);
        due("after a change of labels", x.matches(), 0);
    }

    private static void rows() {
        promise(19, "rows");
        TrailGraph x = withNodes(3);
        for (int i = 0; i < 12; i++) {
            x.edge(i < 6 ? 0 : 1, i < 6 ? 1 : 2, 0, i);
        }
        x.start(0, 0);
        x.hop(1, 0, 1, 2, 1, 0);
        due("matches()", x.matches(), 12 + 36);
        due("rows()", x.rows(), 3);
        x.hop(1, 2, 1, 3, 2, 0);
        due("matches() with a second hop", x.matches(), MANY);
        due("rows() when matches() is MANY", x.rows(), MANY);
        x.forget();
        due("without parts", x.rows(), 0);
        x.start(0, 0);
        due("rows()", x.rows(), 3);
        condition(x, true, 12, 1000);
        due("no match, no row", x.rows(), 0);
    }

    private static void row() {
        promise(20, "row");
        TrailGraph x = withNodes(3);
        x.edge(2, 0, 0, 0);
        x.edge(2, 0, 0, 0);
        x.edge(1, 2, 0, 0);
        x.edge(0, 1, 0, 0);
        x.edge(0, 2, 0, 0);
        x.start(3, 0);
        x.hop(1, 0, 1, 1, 1, 0);
        due("rows()", x.rows(), 4);
        int[][] want = {{0, 2}, {1, 0}, {2, 0}, {2, 1}};
        for (int k = 0; k < 4; k++) {
            due("row(" + k + ", 1)", x.row(k, 1), want[k][0]);
            due("row(" + k + ", 3)", x.row(k, 3), want[k][1]);
            due("row(" + k + ", 0)", x.row(k, 0), REFUSED);
            due("row(" + k + ", 2)", x.row(k, 2), REFUSED);
        }
        for (int k : new int[] {-1, 4, 5, 1000, 1001, 1002, Integer.MIN_VALUE, Integer.MAX_VALUE}) {
            due("row(" + k + ", 1)", x.row(k, 1), REFUSED);
        }
        for (int v : new int[] {-1, 4, Integer.MIN_VALUE, Integer.MAX_VALUE}) {
            due("row(0, " + v + ")", x.row(0, v), REFUSED);
        }
        fourVariables();
    }

    private static void fourVariables() {
        TrailGraph x = withNodes(5);
        for (int v = 3; v >= 0; v--) {
            x.start(v, 0);
        }
        due("rows()", x.rows(), 625);
        int k = 0;
        for (int a = 0; a < 5; a++) {
            for (int b = 0; b < 5; b++) {
                for (int c = 0; c < 5; c += 4) {
                    k = 125 * a + 25 * b + 5 * c + (a + b) % 5;
                    if (k % 3 == 0) {
                        due("row(" + k + ", 0)", x.row(k, 0), a);
                        due("row(" + k + ", 1)", x.row(k, 1), b);
                        due("row(" + k + ", 2)", x.row(k, 2), c);
                        due("row(" + k + ", 3)", x.row(k, 3), (a + b) % 5);
                    }
                }
            }
        }
        due("row(625, 0)", x.row(625, 0), REFUSED);
    }

    private static void total() {
        promise(21, "total");
        TrailGraph x = withNodes(4);
        x.edge(0, 1, 0, 0);
        x.edge(0, 1, 0, 0);
        x.edge(0, 2, 0, 0);
        x.edge(3, 2, 0, 0);
        x.start(1, 0);
        due("without properties", x.total(1), NULL);
        x.hop(1, 0, 1, 1, 2, 0);
        x.set(0, -4);
        due("over all matches, not rows", x.total(1), -12);
        due("NULL in all matches", x.total(2), NULL);
        x.set(1, 10);
        due("some are NULL", x.total(2), 20);
        x.set(2, -20);
        due("the sum", x.total(2), -20);
        x.set(2, -10);
        due("a sum of 0", x.total(2), 0);
        x.set(3, 12);
        due("a sum of 0", x.total(1), 0);
        for (int v : new int[] {-1, 0, 3, 4, Integer.MIN_VALUE, Integer.MAX_VALUE}) {
            due("total(" + v + ")", x.total(v), NULL);
        }
        x.set(0, Integer.MIN_VALUE);
        x.set(3, Integer.MIN_VALUE);
        due("beyond an int", x.total(1), 4L * Integer.MIN_VALUE);
        condition(x, true, 12, 1000);
        due("without matches", x.total(1), NULL);
        x.forget();
        due("without parts", x.total(1), NULL);
    }

    private static void least() {
        promise(22, "least");
        TrailGraph x = withNodes(3);
        x.edge(0, 1, 0, 100);
        x.edge(1, 2, 0, 99);
        x.edge(2, 0, 0, 98);
        x.edge(2, 0, 1, 3);
        x.edge(0, 0, 2, 0);
        due("without parts", x.least(), REFUSED);
        x.start(0, 0);
        due("no edges", x.least(), 0);
        x.hop(1, 0, 1, 1, 1, 0);
        due("one edge", x.least(), 98);
        x.hop(1, 0, 1, 1, 2, 0);
        due("two edges", x.least(), 197);
        x.hop(3, 0, 1, 1, 0, 0);
        due("three edges", x.least(), 202);
        x.start(1, 0);
        x.hop(4, 0, 1, 1, 1, 0);
        due("an edge of weight 0 too, at node 0 alone", x.least(), 297);
        condition(x, true, 12, 1000);
        due("without matches", x.least(), REFUSED);
        TrailGraph y = withNodes(1);
        for (int i = 0; i < 5; i++) {
            y.edge(0, 0, 0, 100);
        }
        y.start(0, 0);
        y.hop(1, 0, 3, 3, 0, 0);
        y.hop(1, 0, 2, 2, 0, 0);
        due("the greatest sum", y.least(), 500);
        due("matches()", y.matches(), 120);
    }

    private static void walk() {
        promise(23, "walk");
        TrailGraph x = chain();
        due("without an expression", x.walk(0, 1), REFUSED);
        expression(x, true, 12, 0);
        for (int node : WRONG_NODES) {
            due("walk(" + node + ", 0)", x.walk(node, 0), REFUSED);
            due("walk(0, " + node + ")", x.walk(0, node), REFUSED);
            due("walk(" + node + ", " + node + ")", x.walk(node, node), REFUSED);
        }
        due("any number of times", x.walk(0, 3), 3);
        due("none", x.walk(4, 4), 0);
        due("not back", x.walk(3, 0), REFUSED);
        expression(x, true, 12, 3);
        due("against", x.walk(3, 0), 3);
        due("not along", x.walk(0, 3), REFUSED);
        expression(x, true, 13, 0);
        due("one or more", x.walk(0, 2), 2);
        due("not none", x.walk(0, 0), REFUSED);
        expression(x, true, 14, 0);
        due("once", x.walk(0, 1), 1);
        due("or not", x.walk(1, 1), 0);
        due("not twice", x.walk(0, 2), REFUSED);
        expression(x, true, 10, 0, 0);
        due("two", x.walk(0, 2), 2);
        due("not one", x.walk(0, 1), REFUSED);
        expression(x, true, 11, 1, 10, 0, 0);
        due("the lesser of one and two", x.walk(0, 2), 1);
        due("the other", x.walk(1, 3), 2);
        expression(x, true, 11, 10, 0, 0, 1);
        due("the lesser of two and one", x.walk(0, 2), 1);
        expression(x, true, 11, 14, 2, 2);
        due("one of none and one, at node 0", x.walk(0, 0), 0);
        expression(x, true, 11, 2, 14, 2);
        due("one of one and none, at node 0", x.walk(0, 0), 0);
        expression(x, true, 10, 1, 0);
        due("first 1, then 0", x.walk(0, 3), 2);
        expression(x, true, 10, 0, 1);
        due("not first 0, then 1", x.walk(0, 3), REFUSED);
        expression(x, true, 10, 0, 10, 3, 10, 0, 12, 0);
        due("an edge again and back", x.walk(0, 3), 5);
        expression(x, true, 10, 13, 2, 10, 13, 2, 2);
        due("an edge three times", x.walk(3, 3), 3);
        expression(x, true, 13, 14, 4);
        due("one or more of once or not", x.walk(1, 1), 0);
        due("type 1 against", x.walk(2, 0), 1);
        expression(x, true, 13, 11, 0, 10, 4, 3);
        due("walk(0, 3)", x.walk(0, 3), 3);
        expression(x, true, 5);
        due("an edge to itself against", x.walk(3, 3), 1);
        longWalks();
        x.cut(4);
        due("after a cut", x.walk(3, 3), REFUSED);
        x.remove(3, true);
        due("after a removal", x.walk(3, 3), REFUSED);
    }

    private static void longWalks() {
        TrailGraph x = withNodes(8);
        for (int i = 0; i < 8; i++) {
            x.edge(i, (i + 1) % 8, 0, 0);
        }
        x.edge(0, 0, 1, 0);
        expression(x, true, 12, 0);
        due("round", x.walk(1, 0), 7);
        due("none", x.walk(1, 1), 0);
        expression(x, true, 13, 0);
        due("all the way round", x.walk(1, 1), 8);
        due("against the order of the nodes", x.walk(7, 6), 7);
        expression(x, true, 13, 10, 0, 10, 0, 0);
        due("in steps of three", x.walk(0, 1), 9);
        due("in steps of three", x.walk(0, 5), 21);
        due("in steps of three", x.walk(0, 0), 24);
        expression(x, true, 10, 12, 10, 0, 10, 0, 0, 1);
        due("in steps of three, then the loop", x.walk(5, 0), 4);
        due("in steps of three, then the loop", x.walk(3, 0), 22);
        expression(x, true, 10, 13, 0, 10, 1, 13, 0);
        due("by way of 0", x.walk(1, 1), 9);
        due("by way of 0", x.walk(0, 0), 17);
    }

    private static void reach() {
        promise(24, "reach");
        TrailGraph x = chain();
        due("without an expression", x.reach(0), 0);
        expression(x, true, 12, 0);
        for (int node : WRONG_NODES) {
            due("reach(" + node + ")", x.reach(node), 0);
        }
        due("reach(0)", x.reach(0), 0b1111);
        due("reach(2)", x.reach(2), 0b1100);
        due("reach(4)", x.reach(4), 0b10000);
        expression(x, true, 13, 0);
        due("reach(0)", x.reach(0), 0b1110);
        due("reach(4)", x.reach(4), 0);
        expression(x, true, 11, 0, 1);
        due("reach(0)", x.reach(0), 0b0110);
        expression(x, true, 10, 13, 3, 14, 1);
        due("reach(2)", x.reach(2), 0b0111);
        TrailGraph y = withNodes(8);
        for (int i = 7; i > 0; i--) {
            y.edge(i, i - 1, i % 3, 0);
        }
        expression(y, true, 12, 11, 0, 11, 1, 2);
        due("reach(7)", y.reach(7), 255);
        y.remove(3, true);
        due("reach(7)", y.reach(7), 0b11110000);
        due("reach(3)", y.reach(3), 0);
    }

    private static void property() {
        promise(25, "property");
        TrailGraph x = withNodes(5);
        due("at first", x.property(0), NULL);
        x.set(0, 8);
        due("property(0)", x.property(0), 8);
        x.set(4, -8);
        due("property(4)", x.property(4), -8);
        for (int node : WRONG_NODES) {
            due("property(" + node + ")", x.property(node), NULL);
        }
        x.remove(4, false);
        due("of a removed node", x.property(4), NULL);
        due("property(0)", x.property(0), 8);
    }

    private static void there() {
        promise(26, "there");
        TrailGraph x = withNodes(8);
        due("8 nodes", x.there(), 255);
        for (int i = 0; i < 12; i++) {
            x.edge(i % 2, 1, 0, 0);
        }
        due("12 edges", x.there(), 255 + 256 * 4095);
        x.cut(0);
        x.cut(10);
        x.remove(3, false);
        due("some", x.there(), 247 + 256 * (4095 - 1 - 1024));
        x.begin();
        x.begin();
        x.begin();
        x.remove(1, true);
        due("level 3", x.there(), 245 + (3 << 20));
        x.begin();
        due("level 4", x.there(), 245 + (4 << 20));
    }

    private static void orderAndLimits() {
        promise(27, "order and limits");
        TrailGraph x = withNodes(8);
        due("node", x.node(16), REFUSED);
        due("node", x.node(15), FULL);
        for (int i = 0; i < 12; i++) {
            x.edge(0, 0, 0, 1);
        }
        due("edge, no node", x.edge(0, 8, 0, 0), REFUSED);
        due("edge, type", x.edge(0, 0, 3, 0), REFUSED);
        due("edge, weight", x.edge(0, 0, 0, 101), REFUSED);
        due("edge", x.edge(0, 0, 0, 0), FULL);
        for (int i = 0; i < 6; i++) {
            x.start(i % 4, 0);
        }
        due("start, variable", x.start(4, 0), REFUSED);
        due("start, labels", x.start(0, 16), REFUSED);
        due("start", x.start(0, 0), FULL);
        due("hop, types", x.hop(0, 0, 1, 1, 0, 0), REFUSED);
        due("hop, direction", x.hop(1, 3, 1, 1, 0, 0), REFUSED);
        due("hop, low", x.hop(1, 0, 0, 1, 0, 0), REFUSED);
        due("hop, high", x.hop(1, 0, 1, 4, 0, 0), REFUSED);
        due("hop, variable", x.hop(1, 0, 1, 1, 4, 0), REFUSED);
        due("hop, labels", x.hop(1, 0, 1, 1, 0, 16), REFUSED);
        due("hop", x.hop(1, 0, 1, 3, 0, 0), FULL);
        many(x);
        nothingPending();
        x.forget();
        x.start(0, 0);
        x.hop(1, 0, 1, 3, 0, 0);
        x.hop(1, 0, 1, 2, 0, 0);
        x.start(0, 0);
        x.start(1, 0);
        x.start(2, 0);
        due("hop, highs", x.hop(1, 0, 1, 1, 0, 0), REFUSED);
        many(x);
        x.forget();
        x.start(0, 0);
        x.hop(1, 0, 1, 3, 0, 0);
        many(x);
        due("rows() in one row", x.rows(), MANY);
    }

    private static void many(TrailGraph x) {
        due("matches()", x.matches(), MANY);
        due("rows()", x.rows(), MANY);
        due("least()", x.least(), REFUSED);
        x.set(0, 1);
        for (int v = -1; v <= 4; v++) {
            due("total(" + v + ")", x.total(v), NULL);
            due("row(0, " + v + ")", x.row(0, v), REFUSED);
            due("row(-1, " + v + ")", x.row(-1, v), REFUSED);
            due("row(1000, " + v + ")", x.row(1000, v), REFUSED);
            due("row(1001, " + v + ")", x.row(1001, v), REFUSED);
        }
    }

    private static void nothingPending() {
        TrailGraph x = withNodes(1);
        x.start(0, 0);
        condition(x, false, 0);
        expression(x, false, 10, 0);
        condition(x, true, 12, 0);
        expression(x, true, 12, 0);
        due("the first token again", x.token(0), 1);
        due("spell()", x.spell(), true);
        due("spell() without tokens", x.spell(), false);
        due("where() without tokens", x.where(), true);
    }
}
