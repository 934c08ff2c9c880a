/** The boundary cases of nodes, edges and transactions: each sentence of the document has its own test. */
public final class GraphBoundaryTests {
    private static final int REFUSED = Sentences.REFUSED;
    private static final int FULL = Sentences.FULL;
    private static final long NULL = Sentences.NULL;

    private static final Sentences DOC = new Sentences();

    public static void main(String[] args) {
        testTerms();
        testNodes();
        testEdges();
        testTransactions();
        DOC.close();
    }

    private static void testTerms() {
        DOC.test("what it is", "An object is used for at most 512 calls after it has been made",
            GraphBoundaryTests::fiveHundredAndTwelveCalls);
        DOC.test("promise 1", "No nodes, level 0, no parts, no condition, no expression.",
            GraphBoundaryTests::newObject);
        DOC.test("terms", "NODES 0 .. 7 ... are there or not.", GraphBoundaryTests::eightNodes);
        DOC.test("terms", "EDGES 0 .. 11 are there or not.", GraphBoundaryTests::twelveEdges);
        DOC.test("terms", "A node has a set of LABELS (bits 0 .. 3)", GraphBoundaryTests::sixteenSetsOfLabels);
        DOC.test("terms", "a PROPERTY, an int", GraphBoundaryTests::anyInt);
        DOC.test("terms", "or NULL (at first).", GraphBoundaryTests::nullAtFirst);
        DOC.test("terms", "An edge goes from a node to a node (perhaps the same one)", GraphBoundaryTests::endsOfEdges);
        DOC.test("terms", "has a TYPE 0 .. 2", GraphBoundaryTests::threeTypes);
        DOC.test("terms", "a WEIGHT 0 .. 100.", GraphBoundaryTests::leastAndGreatestWeight);
        DOC.test("terms", "A new one gets the least number that is free. (nodes)", GraphBoundaryTests::leastFreeNode);
        DOC.test("terms", "A new one gets the least number that is free. (edges)", GraphBoundaryTests::leastFreeEdge);
    }

    private static void testNodes() {
        DOC.test("promise 2", "A new node: its number.", GraphBoundaryTests::nodeNumbers);
        DOC.test("promise 2", "REFUSED if labels is not 0 .. 15", GraphBoundaryTests::nodeWithWrongLabels);
        DOC.test("promise 2", "FULL if there are 8.", GraphBoundaryTests::nodeWhenFull);
        DOC.test("promise 3", "Sets the property of a node: true", GraphBoundaryTests::setEachNode);
        DOC.test("promise 3", "false if it is not there.", GraphBoundaryTests::setWhereNoNodeIs);
        DOC.test("promise 4", "The property of a node becomes NULL: true", GraphBoundaryTests::clearEachNode);
        DOC.test("promise 4", "false if it is not there.", GraphBoundaryTests::clearWhereNoNodeIs);
        DOC.test("promise 5", "The labels of a node: the old ones.", GraphBoundaryTests::labelEachNode);
        DOC.test("promise 5", "REFUSED if it is not there", GraphBoundaryTests::labelWhereNoNodeIs);
        DOC.test("promise 5", "REFUSED if ... labels is not 0 .. 15.", GraphBoundaryTests::labelWithWrongLabels);
        DOC.test("promise 8", "Takes a node away: how many edges went with it.", GraphBoundaryTests::removeCountsEdges);
        DOC.test("promise 8", "REFUSED if it is not there", GraphBoundaryTests::removeWhereNoNodeIs);
        DOC.test("promise 8", "or has edges and detach is false.", GraphBoundaryTests::removeWithEdges);
        DOC.test("promise 25", "The property of a node", GraphBoundaryTests::propertyOfEachNode);
        DOC.test("promise 25", "NULL if it is NULL", GraphBoundaryTests::propertyThatIsNull);
        DOC.test("promise 25", "or the node is not there.", GraphBoundaryTests::propertyWhereNoNodeIs);
        DOC.test("promise 26", "the nodes that are there (bits 0 .. 7)", GraphBoundaryTests::thereOfNodes);
        DOC.test("promise 26", "+ 256 * that of the edges", GraphBoundaryTests::thereOfEdges);
        DOC.test("promise 26", "+ 2^20 * the level.", GraphBoundaryTests::thereOfLevels);
        DOC.test("promise 27", "node ...: REFUSED is tested before FULL.", GraphBoundaryTests::nodeRefusedBeforeFull);
    }

    private static void testEdges() {
        DOC.test("promise 6", "A new edge: its number.", GraphBoundaryTests::edgeNumbers);
        DOC.test("promise 6", "REFUSED if a node is not there", GraphBoundaryTests::edgeWhereNoNodeIs);
        DOC.test("promise 6", "type is not 0 .. 2", GraphBoundaryTests::edgeOfWrongType);
        DOC.test("promise 6", "or weight not 0 .. 100", GraphBoundaryTests::edgeOfWrongWeight);
        DOC.test("promise 6", "FULL if there are 12.", GraphBoundaryTests::edgeWhenFull);
        DOC.test("promise 7", "Takes an edge away: true", GraphBoundaryTests::cutEachEdge);
        DOC.test("promise 7", "false if it is not there.", GraphBoundaryTests::cutWhereNoEdgeIs);
        DOC.test("promise 27", "edge ...: REFUSED is tested before FULL.", GraphBoundaryTests::edgeRefusedBeforeFull);
    }

    private static void testTransactions() {
        DOC.test("terms", "LEVELS of transactions: 0 at first, at most 4.", GraphBoundaryTests::levels);
        DOC.test("terms", "commit one down, and all stays as it is", GraphBoundaryTests::commitKeepsAll);
        DOC.test("terms", "rollback one down, and nodes ... are what they were", GraphBoundaryTests::rollbackOfNodes);
        DOC.test("terms", "rollback one down, and ... edges ... are what they were", GraphBoundaryTests::rollbackOfEdges);
        DOC.test("terms", "rollback one down, and ... labels ... are what they were", GraphBoundaryTests::rollbackOfLabels);
        DOC.test("terms", "rollback one down, and ... properties are what they were",
            GraphBoundaryTests::rollbackOfProperties);
        DOC.test("terms", "at that begin", GraphBoundaryTests::rollbackToItsOwnBegin);
        DOC.test("terms", "(if something was committed within, that too).", GraphBoundaryTests::rollbackOfCommits);
        DOC.test("promise 9", "The level then", GraphBoundaryTests::beginTellsTheLevel);
        DOC.test("promise 9", "FULL if it is 4.", GraphBoundaryTests::beginWhenFull);
        DOC.test("promise 10", "The level then", GraphBoundaryTests::commitTellsTheLevel);
        DOC.test("promise 10", "REFUSED if it is 0.", GraphBoundaryTests::commitAtZero);
        DOC.test("promise 11", "Likewise. (the level then)", GraphBoundaryTests::rollbackTellsTheLevel);
        DOC.test("promise 11", "Likewise. (REFUSED if it is 0)", GraphBoundaryTests::rollbackAtZero);
    }

    // ---- terms ----

    /** 85 rounds of 6 calls, each of which takes what it gives back: nothing may be used up by then. */
    private static void fiveHundredAndTwelveCalls() {
        TrailGraph x = new TrailGraph();
        for (int round = 0; round < 85; round++) {
            switch (round % 3) {
                case 0 -> {
                    DOC.due("begin() in round " + round, x.begin(), 1);
                    DOC.due("node(1) in round " + round, x.node(1), 0);
                    DOC.due("edge(0, 0, 0, 1) in round " + round, x.edge(0, 0, 0, 1), 0);
                    DOC.due("cut(0) in round " + round, x.cut(0), true);
                    DOC.due("remove(0, false) in round " + round, x.remove(0, false), 0);
                    DOC.due("rollback() in round " + round, x.rollback(), 0);
                }
                case 1 -> {
                    DOC.due("start(0, 0) in round " + round, x.start(0, 0), 1);
                    DOC.due("hop(1, 0, 1, 3, 1, 0) in round " + round, x.hop(1, 0, 1, 3, 1, 0), 2);
                    DOC.due("token(12) in round " + round, x.token(12), 1);
                    DOC.due("token(0) in round " + round, x.token(0), 2);
                    DOC.due("where() in round " + round, x.where(), true);
                    DOC.due("forget() in round " + round, x.forget(), 2);
                }
                default -> {
                    DOC.due("token(13) in round " + round, x.token(13), 1);
                    DOC.due("token(0) in round " + round, x.token(0), 2);
                    DOC.due("spell() in round " + round, x.spell(), true);
                    DOC.due("reach(0) in round " + round, x.reach(0), 0);
                    DOC.due("matches() in round " + round, x.matches(), 0);
                    DOC.due("there() in round " + round, x.there(), 0);
                }
            }
        }
        DOC.due("the 511th call, node(0)", x.node(0), 0);
        DOC.due("the 512th call, there()", x.there(), 1);
    }

    private static void newObject() {
        TrailGraph x = new TrailGraph();
        DOC.due("no nodes, level 0: there()", x.there(), 0);
        DOC.due("no node: property(0)", x.property(0), NULL);
        DOC.due("level 0: commit()", x.commit(), REFUSED);
        DOC.due("level 0: rollback()", x.rollback(), REFUSED);
        DOC.due("no parts: forget()", x.forget(), 0);
        DOC.due("nothing pending: spell()", x.spell(), false);
        x.node(0);
        DOC.due("no expression: walk(0, 0)", x.walk(0, 0), REFUSED);
        DOC.due("no expression: reach(0)", x.reach(0), 0);
        TrailGraph other = new TrailGraph();
        other.node(0);
        other.start(0, 0);
        DOC.due("no condition: matches()", other.matches(), 1);
    }

    private static void eightNodes() {
        TrailGraph x = new TrailGraph();
        for (int node = 0; node < 8; node++) {
            DOC.due("set(" + node + ", 1) before it is made", x.set(node, 1), false);
            x.node(0);
            DOC.due("set(" + node + ", 1)", x.set(node, 1), true);
        }
        for (int node = 7; node >= 0; node--) {
            x.remove(node, false);
            DOC.due("set(" + node + ", 1) after its removal", x.set(node, 1), false);
            DOC.due("there()", x.there(), (1 << node) - 1);
        }
    }

    private static void twelveEdges() {
        TrailGraph x = Sentences.withNodes(2);
        for (int edge = 0; edge < 12; edge++) {
            DOC.due("cut(" + edge + ") before it is made", x.cut(edge), false);
            x.edge(0, 1, 0, 0);
        }
        DOC.due("there() with 12", x.there(), 3 + 256 * 4095);
        for (int edge = 11; edge >= 0; edge--) {
            DOC.due("cut(" + edge + ")", x.cut(edge), true);
            DOC.due("cut(" + edge + ") again", x.cut(edge), false);
        }
        DOC.due("there() without", x.there(), 3);
    }

    private static void sixteenSetsOfLabels() {
        TrailGraph x = Sentences.withNodes(1);
        int old = 0;
        for (int labels = 15; labels >= 0; labels--) {
            DOC.due("label(0, " + labels + ")", x.label(0, labels), old);
            old = labels;
            for (int bit = 0; bit < 4; bit++) {
                x.forget();
                x.start(0, 1 << bit);
                DOC.due("matches() of label " + bit + " among " + labels, x.matches(), labels >> bit & 1);
            }
        }
    }

    private static void anyInt() {
        TrailGraph x = Sentences.withNodes(1);
        int[] values = {0, 1, -1, -2, -3, 9999, 10000, 1 << 30, Integer.MAX_VALUE, Integer.MIN_VALUE, Integer.MIN_VALUE + 1};
        for (int value : values) {
            DOC.due("set(0, " + value + ")", x.set(0, value), true);
            DOC.due("property(0)", x.property(0), value);
        }
    }

    private static void nullAtFirst() {
        TrailGraph x = new TrailGraph();
        for (int node = 0; node < 8; node++) {
            x.node(node);
            DOC.due("property(" + node + ")", x.property(node), NULL);
            x.set(node, 3);
        }
        for (int node = 0; node < 8; node++) {
            x.remove(node, false);
            x.node(0);
            DOC.due("property(" + node + ") of a new node in an old one's place", x.property(node), NULL);
        }
    }

    private static void endsOfEdges() {
        for (int from = 0; from < 8; from++) {
            for (int to = 0; to < 8; to++) {
                TrailGraph x = Sentences.withNodes(8);
                DOC.due("edge(" + from + ", " + to + ", 0, 0)", x.edge(from, to, 0, 0), 0);
                Sentences.spell(x, 0);
                DOC.due("reach(" + from + ")", x.reach(from), 1 << to);
                Sentences.spell(x, 3);
                DOC.due("reach(" + to + ") against it", x.reach(to), 1 << from);
            }
        }
    }

    private static void threeTypes() {
        TrailGraph x = Sentences.withNodes(3);
        for (int type = 0; type < 3; type++) {
            DOC.due("edge(0, " + type + ", " + type + ", 0)", x.edge(0, type, type, 0), type);
        }
        for (int type = 0; type < 3; type++) {
            Sentences.spell(x, type);
            DOC.due("reach(0) by type " + type, x.reach(0), 1 << type);
            x.forget();
            x.start(0, 0);
            x.hop(1 << type, 0, 1, 1, 1, 0);
            DOC.due("matches() by type " + type, x.matches(), 1);
            DOC.due("row(0, 1) by type " + type, x.row(0, 1), type);
        }
    }

    private static void leastAndGreatestWeight() {
        for (int weight : new int[] {0, 1, 63, 64, 99, 100}) {
            TrailGraph x = Sentences.withNodes(8);
            DOC.due("edge(7, 7, 2, " + weight + ")", x.edge(7, 7, 2, weight), 0);
            x.start(0, 0);
            x.hop(4, 0, 1, 1, 0, 0);
            DOC.due("least()", x.least(), weight);
        }
    }

    private static void leastFreeNode() {
        TrailGraph x = Sentences.withNodes(8);
        x.remove(7, false);
        x.remove(0, false);
        x.remove(4, false);
        DOC.due("the first of 0, 4, 7", x.node(0), 0);
        DOC.due("the first of 4, 7", x.node(0), 4);
        x.remove(3, false);
        DOC.due("the first of 3, 7", x.node(0), 3);
        x.begin();
        DOC.due("the last one", x.node(0), 7);
        x.remove(1, false);
        x.rollback();
        DOC.due("free again after a rollback", x.node(0), 7);
        DOC.due("node 1 came back", x.node(0), FULL);
    }

    private static void leastFreeEdge() {
        TrailGraph x = Sentences.withLoops(12);
        x.cut(11);
        x.cut(0);
        x.cut(6);
        DOC.due("the first of 0, 6, 11", x.edge(0, 0, 1, 0), 0);
        DOC.due("the first of 6, 11", x.edge(0, 0, 1, 0), 6);
        x.cut(5);
        DOC.due("the first of 5, 11", x.edge(0, 0, 1, 0), 5);
        x.begin();
        DOC.due("the last one", x.edge(0, 0, 1, 0), 11);
        x.cut(2);
        x.rollback();
        DOC.due("free again after a rollback", x.edge(0, 0, 1, 0), 11);
        DOC.due("edge 2 came back", x.edge(0, 0, 1, 0), FULL);
        x.remove(0, true);
        x.node(0);
        DOC.due("all free when their node went", x.edge(0, 0, 1, 0), 0);
    }

    // ---- nodes ----

    private static void nodeNumbers() {
        TrailGraph x = new TrailGraph();
        int[] labels = {0, 15, 1, 14, 8, 7, 0, 15};
        for (int node = 0; node < 8; node++) {
            DOC.due("node(" + labels[node] + ")", x.node(labels[node]), node);
        }
        for (int node = 0; node < 8; node++) {
            DOC.due("label(" + node + ", 0)", x.label(node, 0), labels[node]);
        }
    }

    private static void nodeWithWrongLabels() {
        TrailGraph x = new TrailGraph();
        for (int labels : Sentences.NO_LABELS) {
            DOC.due("node(" + labels + ")", x.node(labels), REFUSED);
        }
        DOC.due("there()", x.there(), 0);
        DOC.due("node(0)", x.node(0), 0);
        DOC.due("node(15)", x.node(15), 1);
    }

    private static void nodeWhenFull() {
        TrailGraph x = Sentences.withNodes(7);
        DOC.due("the 8th", x.node(3), 7);
        DOC.due("with 8", x.node(5), FULL);
        DOC.due("with 8, again", x.node(0), FULL);
        DOC.due("there()", x.there(), 255);
        DOC.due("label(7, 0)", x.label(7, 0), 3);
        x.remove(2, false);
        DOC.due("with 7 again", x.node(0), 2);
        DOC.due("with 8 again", x.node(0), FULL);
    }

    private static void setEachNode() {
        TrailGraph x = Sentences.withNodes(8);
        for (int node = 0; node < 8; node++) {
            DOC.due("set(" + node + ", " + node * 10 + ")", x.set(node, node * 10), true);
        }
        DOC.due("set(7, -1)", x.set(7, -1), true);
        DOC.due("set(0, -2)", x.set(0, -2), true);
        for (int node = 1; node < 7; node++) {
            DOC.due("property(" + node + ")", x.property(node), node * 10);
        }
        DOC.due("property(7)", x.property(7), -1);
        DOC.due("property(0)", x.property(0), -2);
    }

    private static void setWhereNoNodeIs() {
        TrailGraph empty = new TrailGraph();
        DOC.due("set(0, 1) without nodes", empty.set(0, 1), false);
        TrailGraph x = Sentences.withNodes(8);
        for (int node : Sentences.NEVER_THERE) {
            DOC.due("set(" + node + ", 1)", x.set(node, 1), false);
        }
        DOC.due("set(8, 1)", x.set(8, 1), false);
        for (int node = 0; node < 8; node++) {
            DOC.due("property(" + node + ")", x.property(node), NULL);
        }
        x.remove(3, false);
        DOC.due("set(3, 1) after its removal", x.set(3, 1), false);
        x.node(0);
        DOC.due("property(3) of the next one", x.property(3), NULL);
    }

    private static void clearEachNode() {
        TrailGraph x = Sentences.withNodes(8);
        for (int node = 0; node < 8; node++) {
            x.set(node, node);
        }
        for (int node = 0; node < 8; node++) {
            DOC.due("clear(" + node + ")", x.clear(node), true);
            DOC.due("property(" + node + ")", x.property(node), NULL);
            DOC.due("clear(" + node + ") again", x.clear(node), true);
            DOC.due("property(7)", x.property(7), node < 7 ? 7 : NULL);
        }
    }

    private static void clearWhereNoNodeIs() {
        TrailGraph empty = new TrailGraph();
        DOC.due("clear(0) without nodes", empty.clear(0), false);
        TrailGraph x = Sentences.withNodes(8);
        x.set(0, 5);
        x.set(7, 6);
        for (int node : Sentences.NEVER_THERE) {
            DOC.due("clear(" + node + ")", x.clear(node), false);
        }
        DOC.due("clear(8)", x.clear(8), false);
        DOC.due("property(0)", x.property(0), 5);
        DOC.due("property(7)", x.property(7), 6);
        x.remove(7, false);
        DOC.due("clear(7) after its removal", x.clear(7), false);
    }

    private static void labelEachNode() {
        TrailGraph x = new TrailGraph();
        for (int node = 0; node < 8; node++) {
            x.node(15 - node);
        }
        for (int node = 0; node < 8; node++) {
            DOC.due("label(" + node + ", " + node + ")", x.label(node, node), 15 - node);
        }
        for (int node = 0; node < 8; node++) {
            DOC.due("label(" + node + ", 15)", x.label(node, 15), node);
        }
        DOC.due("label(0, 0)", x.label(0, 0), 15);
        DOC.due("label(0, 15)", x.label(0, 15), 0);
    }

    private static void labelWhereNoNodeIs() {
        TrailGraph empty = new TrailGraph();
        DOC.due("label(0, 0) without nodes", empty.label(0, 0), REFUSED);
        TrailGraph x = Sentences.withNodes(8);
        for (int node : Sentences.NEVER_THERE) {
            DOC.due("label(" + node + ", 9)", x.label(node, 9), REFUSED);
        }
        DOC.due("label(8, 9)", x.label(8, 9), REFUSED);
        for (int node = 0; node < 8; node++) {
            DOC.due("label(" + node + ", 0)", x.label(node, 0), 0);
        }
        x.remove(7, false);
        DOC.due("label(7, 9) after its removal", x.label(7, 9), REFUSED);
        x.node(2);
        DOC.due("label(7, 0) of the next one", x.label(7, 0), 2);
    }

    private static void labelWithWrongLabels() {
        TrailGraph x = new TrailGraph();
        x.node(6);
        for (int labels : Sentences.NO_LABELS) {
            DOC.due("label(0, " + labels + ")", x.label(0, labels), REFUSED);
        }
        DOC.due("label(0, 15)", x.label(0, 15), 6);
        DOC.due("label(0, 0)", x.label(0, 0), 15);
    }

    private static void removeCountsEdges() {
        TrailGraph x = Sentences.withNodes(8);
        x.edge(0, 1, 0, 0);
        x.edge(1, 0, 0, 0);
        x.edge(0, 0, 0, 0);
        x.edge(1, 2, 0, 0);
        DOC.due("none", x.remove(7, false), 0);
        DOC.due("none, detached", x.remove(6, true), 0);
        DOC.due("one that leaves, one that comes, one to itself", x.remove(0, true), 3);
        DOC.due("there()", x.there(), 0b111110 + 256 * 8);
        DOC.due("one that comes", x.remove(2, true), 1);
        DOC.due("its edges are gone already", x.remove(1, false), 0);
        DOC.due("there()", x.there(), 0b111000);
        TrailGraph full = Sentences.withLoops(12);
        DOC.due("all twelve", full.remove(0, true), 12);
        DOC.due("there()", full.there(), 0);
        TrailGraph again = Sentences.withLoops(2);
        again.cut(0);
        DOC.due("an edge that was cut does not count", again.remove(0, true), 1);
    }

    private static void removeWhereNoNodeIs() {
        TrailGraph empty = new TrailGraph();
        DOC.due("remove(0, true) without nodes", empty.remove(0, true), REFUSED);
        TrailGraph x = Sentences.withNodes(8);
        for (int i = 0; i < 8; i++) {
            x.edge(i, i, 0, 0);
        }
        for (int node : Sentences.NEVER_THERE) {
            DOC.due("remove(" + node + ", true)", x.remove(node, true), REFUSED);
            DOC.due("remove(" + node + ", false)", x.remove(node, false), REFUSED);
        }
        DOC.due("remove(8, true)", x.remove(8, true), REFUSED);
        DOC.due("there()", x.there(), 255 + 256 * 255);
        x.remove(5, true);
        DOC.due("remove(5, true) again", x.remove(5, true), REFUSED);
        DOC.due("remove(5, false) again", x.remove(5, false), REFUSED);
    }

    private static void removeWithEdges() {
        TrailGraph x = Sentences.withNodes(4);
        x.edge(0, 1, 0, 0);
        x.edge(2, 2, 0, 0);
        DOC.due("one that leaves", x.remove(0, false), REFUSED);
        DOC.due("one that comes", x.remove(1, false), REFUSED);
        DOC.due("one to itself", x.remove(2, false), REFUSED);
        DOC.due("nothing went", x.there(), 15 + 256 * 3);
        DOC.due("no edges", x.remove(3, false), 0);
        x.cut(0);
        DOC.due("no edges any more", x.remove(0, false), 0);
    }

    private static void propertyOfEachNode() {
        TrailGraph x = Sentences.withNodes(8);
        for (int node = 0; node < 8; node++) {
            x.set(node, node - 4);
        }
        for (int node = 0; node < 8; node++) {
            DOC.due("property(" + node + ")", x.property(node), node - 4);
        }
    }

    private static void propertyThatIsNull() {
        TrailGraph x = Sentences.withNodes(8);
        DOC.due("the constant", TrailGraph.NULL, NULL);
        DOC.due("property(0)", x.property(0), NULL);
        DOC.due("property(7)", x.property(7), NULL);
        x.set(7, 0);
        DOC.due("0 is not NULL", x.property(7), 0);
        x.clear(7);
        DOC.due("property(7)", x.property(7), NULL);
    }

    private static void propertyWhereNoNodeIs() {
        DOC.due("without nodes", new TrailGraph().property(0), NULL);
        TrailGraph x = Sentences.withNodes(8);
        for (int node = 0; node < 8; node++) {
            x.set(node, 1);
        }
        for (int node : Sentences.NEVER_THERE) {
            DOC.due("property(" + node + ")", x.property(node), NULL);
        }
        DOC.due("property(8)", x.property(8), NULL);
        x.remove(7, false);
        DOC.due("property(7) after its removal", x.property(7), NULL);
    }

    private static void thereOfNodes() {
        TrailGraph x = new TrailGraph();
        DOC.due("none", x.there(), 0);
        for (int node = 0; node < 8; node++) {
            x.node(0);
            DOC.due("nodes 0 .. " + node, x.there(), (2 << node) - 1);
        }
        x.remove(0, false);
        DOC.due("without 0", x.there(), 254);
        x.remove(7, false);
        DOC.due("without 0 and 7", x.there(), 126);
    }

    private static void thereOfEdges() {
        TrailGraph x = Sentences.withNodes(1);
        for (int edge = 0; edge < 12; edge++) {
            x.edge(0, 0, 0, 0);
            DOC.due("edges 0 .. " + edge, x.there(), 1 + 256 * ((2 << edge) - 1));
        }
        x.cut(11);
        DOC.due("without 11", x.there(), 1 + 256 * 2047);
        x.cut(0);
        DOC.due("without 0 and 11", x.there(), 1 + 256 * 2046);
    }

    private static void thereOfLevels() {
        TrailGraph x = Sentences.withLoops(12);
        for (int level = 1; level <= 4; level++) {
            x.begin();
            DOC.due("level " + level, x.there(), 1 + 256 * 4095 + 1048576 * level);
        }
        x.commit();
        DOC.due("level 3", x.there(), 1 + 256 * 4095 + 3 * 1048576);
        x.rollback();
        DOC.due("level 2", x.there(), 1 + 256 * 4095 + 2 * 1048576);
    }

    private static void nodeRefusedBeforeFull() {
        TrailGraph x = Sentences.withNodes(8);
        for (int labels : Sentences.NO_LABELS) {
            DOC.due("node(" + labels + ") with 8", x.node(labels), REFUSED);
        }
        DOC.due("node(15) with 8", x.node(15), FULL);
    }

    // ---- edges ----

    private static void edgeNumbers() {
        TrailGraph x = Sentences.withNodes(8);
        for (int edge = 0; edge < 12; edge++) {
            DOC.due("edge " + edge, x.edge(edge % 8, 7 - edge % 8, edge % 3, edge * 9), edge);
        }
    }

    private static void edgeWhereNoNodeIs() {
        TrailGraph x = Sentences.withNodes(8);
        for (int node : Sentences.NEVER_THERE) {
            DOC.due("edge(" + node + ", 0, 0, 0)", x.edge(node, 0, 0, 0), REFUSED);
            DOC.due("edge(0, " + node + ", 0, 0)", x.edge(0, node, 0, 0), REFUSED);
            DOC.due("edge(" + node + ", " + node + ", 0, 0)", x.edge(node, node, 0, 0), REFUSED);
        }
        DOC.due("edge(8, 0, 0, 0)", x.edge(8, 0, 0, 0), REFUSED);
        DOC.due("edge(0, 8, 0, 0)", x.edge(0, 8, 0, 0), REFUSED);
        x.remove(4, false);
        DOC.due("edge(4, 0, 0, 0) after its removal", x.edge(4, 0, 0, 0), REFUSED);
        DOC.due("edge(0, 4, 0, 0) after its removal", x.edge(0, 4, 0, 0), REFUSED);
        DOC.due("edge(4, 4, 0, 0) after its removal", x.edge(4, 4, 0, 0), REFUSED);
        DOC.due("there()", x.there(), 255 - 16);
        DOC.due("edge(7, 0, 0, 0)", x.edge(7, 0, 0, 0), 0);
    }

    private static void edgeOfWrongType() {
        TrailGraph x = Sentences.withNodes(1);
        for (int type : new int[] {-1, -3, 3, 4, 5, 32, Integer.MIN_VALUE, Integer.MAX_VALUE}) {
            DOC.due("edge(0, 0, " + type + ", 0)", x.edge(0, 0, type, 0), REFUSED);
        }
        DOC.due("there()", x.there(), 1);
        DOC.due("edge(0, 0, 0, 0)", x.edge(0, 0, 0, 0), 0);
        DOC.due("edge(0, 0, 2, 0)", x.edge(0, 0, 2, 0), 1);
    }

    private static void edgeOfWrongWeight() {
        TrailGraph x = Sentences.withNodes(1);
        for (int weight : new int[] {-1, -100, 101, 127, 128, 256, Integer.MIN_VALUE, Integer.MAX_VALUE}) {
            DOC.due("edge(0, 0, 0, " + weight + ")", x.edge(0, 0, 0, weight), REFUSED);
        }
        DOC.due("there()", x.there(), 1);
        DOC.due("edge(0, 0, 0, 0)", x.edge(0, 0, 0, 0), 0);
        DOC.due("edge(0, 0, 0, 100)", x.edge(0, 0, 0, 100), 1);
    }

    private static void edgeWhenFull() {
        TrailGraph x = Sentences.withLoops(11);
        DOC.due("the 12th", x.edge(0, 0, 0, 0), 11);
        DOC.due("with 12", x.edge(0, 0, 1, 0), FULL);
        DOC.due("with 12, again", x.edge(0, 0, 1, 0), FULL);
        DOC.due("there()", x.there(), 1 + 256 * 4095);
        Sentences.spell(x, 1);
        DOC.due("none of type 1: reach(0)", x.reach(0), 0);
        x.cut(5);
        DOC.due("with 11 again", x.edge(0, 0, 1, 0), 5);
        DOC.due("with 12 again", x.edge(0, 0, 1, 0), FULL);
    }

    private static void cutEachEdge() {
        for (int edge = 0; edge < 12; edge++) {
            TrailGraph x = Sentences.withLoops(12);
            DOC.due("cut(" + edge + ")", x.cut(edge), true);
            DOC.due("there()", x.there(), 1 + 256 * (4095 - (1 << edge)));
        }
        TrailGraph x = Sentences.withPath(3);
        x.cut(0);
        Sentences.spell(x, 13, 0);
        DOC.due("it can't be gone along: reach(0)", x.reach(0), 0);
        x.start(0, 0);
        x.hop(7, 2, 1, 1, 1, 0);
        DOC.due("it is in no match: matches()", x.matches(), 2);
    }

    private static void cutWhereNoEdgeIs() {
        DOC.due("cut(0) without edges", new TrailGraph().cut(0), false);
        TrailGraph x = Sentences.withLoops(12);
        for (int edge : Sentences.NEVER_THERE) {
            DOC.due("cut(" + edge + ")", x.cut(edge), false);
        }
        DOC.due("there()", x.there(), 1 + 256 * 4095);
        x.cut(11);
        DOC.due("cut(11) again", x.cut(11), false);
        DOC.due("there()", x.there(), 1 + 256 * 2047);
        x.remove(0, true);
        DOC.due("cut(0) after its node went", x.cut(0), false);
    }

    private static void edgeRefusedBeforeFull() {
        TrailGraph x = Sentences.withLoops(12);
        DOC.due("edge(1, 0, 0, 0) with 12", x.edge(1, 0, 0, 0), REFUSED);
        DOC.due("edge(0, 1, 0, 0) with 12", x.edge(0, 1, 0, 0), REFUSED);
        DOC.due("edge(0, 0, 3, 0) with 12", x.edge(0, 0, 3, 0), REFUSED);
        DOC.due("edge(0, 0, -1, 0) with 12", x.edge(0, 0, -1, 0), REFUSED);
        DOC.due("edge(0, 0, 0, 101) with 12", x.edge(0, 0, 0, 101), REFUSED);
        DOC.due("edge(0, 0, 0, -1) with 12", x.edge(0, 0, 0, -1), REFUSED);
        DOC.due("edge(0, 0, 0, 100) with 12", x.edge(0, 0, 0, 100), FULL);
    }

    // ---- transactions ----

    private static void levels() {
        TrailGraph x = new TrailGraph();
        DOC.due("at first", x.there(), 0);
        for (int i = 0; i < 10; i++) {
            x.begin();
        }
        DOC.due("at most", x.there(), 4 << 20);
        for (int i = 0; i < 10; i++) {
            x.commit();
        }
        DOC.due("at least", x.there(), 0);
        DOC.due("up again", x.begin(), 1);
    }

    private static void commitKeepsAll() {
        TrailGraph x = Sentences.withLoops(2);
        x.node(5);
        x.set(0, 1);
        x.begin();
        x.set(0, 2);
        x.label(0, 9);
        x.cut(0);
        x.remove(1, false);
        x.edge(0, 0, 2, 77);
        x.edge(0, 0, 1, 3);
        DOC.due("commit()", x.commit(), 0);
        DOC.due("there()", x.there(), 1 + 256 * 7);
        DOC.due("property(0)", x.property(0), 2);
        DOC.due("label(0, 9)", x.label(0, 9), 9);
        x.start(0, 0);
        x.hop(4, 0, 1, 1, 0, 0);
        DOC.due("least()", x.least(), 77);
        DOC.due("rollback() can't undo it", x.rollback(), REFUSED);
        DOC.due("there()", x.there(), 1 + 256 * 7);
    }

    private static void rollbackOfNodes() {
        TrailGraph x = Sentences.withNodes(4);
        x.remove(1, false);
        x.begin();
        x.remove(0, false);
        x.remove(3, false);
        for (int i = 0; i < 7; i++) {
            x.node(0);
        }
        DOC.due("there() before", x.there(), 255 + (1 << 20));
        DOC.due("rollback()", x.rollback(), 0);
        DOC.due("there()", x.there(), 0b1101);
        x.begin();
        x.remove(0, false);
        x.remove(2, false);
        x.remove(3, false);
        DOC.due("rollback() to more nodes", x.rollback(), 0);
        DOC.due("there()", x.there(), 0b1101);
    }

    /** Every edge is made anew with other ends, type and weight before the rollback. */
    private static void rollbackOfEdges() {
        TrailGraph x = Sentences.withNodes(8);
        for (int edge = 0; edge < 12; edge++) {
            x.edge(edge % 8, (edge + 3) % 8, edge % 3, 100 - edge);
        }
        x.cut(11);
        x.begin();
        for (int edge = 0; edge < 12; edge++) {
            x.cut(edge);
        }
        for (int edge = 0; edge < 12; edge++) {
            x.edge((edge + 3) % 8, edge % 8, (edge + 1) % 3, edge);
        }
        DOC.due("rollback()", x.rollback(), 0);
        DOC.due("there()", x.there(), 255 + 256 * 2047);
        for (int edge = 0; edge < 11; edge++) {
            x.forget();
            x.label(edge % 8, 1);
            x.start(0, 1);
            x.hop(1 << edge % 3, 0, 1, 1, 1, 0);
            DOC.due("edge " + edge + " leads", x.row(0, 1), (edge + 3) % 8);
            DOC.due("edge " + edge + " weighs", x.least(), 100 - edge);
            DOC.due("edge " + edge + " is one", x.matches(), 1);
            x.label(edge % 8, 0);
        }
    }

    private static void rollbackOfLabels() {
        TrailGraph x = new TrailGraph();
        for (int node = 0; node < 8; node++) {
            x.node(node * 2);
        }
        x.begin();
        for (int node = 0; node < 8; node++) {
            x.label(node, 15 - node);
        }
        x.remove(7, false);
        x.node(3);
        DOC.due("rollback()", x.rollback(), 0);
        for (int node = 0; node < 8; node++) {
            DOC.due("label(" + node + ", 0)", x.label(node, 0), node * 2);
        }
    }

    private static void rollbackOfProperties() {
        TrailGraph x = Sentences.withNodes(8);
        for (int node = 0; node < 8; node += 2) {
            x.set(node, node - 3);
        }
        x.begin();
        for (int node = 1; node < 8; node++) {
            x.set(node, 50 + node);
        }
        x.clear(0);
        x.remove(6, false);
        x.node(0);
        DOC.due("rollback()", x.rollback(), 0);
        for (int node = 0; node < 8; node++) {
            DOC.due("property(" + node + ")", x.property(node), node % 2 == 0 ? node - 3 : NULL);
        }
    }

    private static void rollbackToItsOwnBegin() {
        TrailGraph x = Sentences.withNodes(1);
        for (int level = 0; level < 4; level++) {
            x.set(0, level);
            x.label(0, level);
            x.edge(0, 0, 0, level);
            x.node(0);
            x.begin();
        }
        x.clear(0);
        for (int level = 3; level >= 0; level--) {
            DOC.due("rollback()", x.rollback(), level);
            DOC.due("property(0)", x.property(0), level);
            DOC.due("label(0, 9)", x.label(0, 9), level);
            DOC.due("there()", x.there(), (4 << level) - 1 + 256 * ((2 << level) - 1) + (level << 20));
        }
        x.begin();
        x.set(0, 70);
        x.rollback();
        x.set(0, 71);
        x.begin();
        x.set(0, 72);
        DOC.due("rollback() to a second begin on the same level", x.rollback(), 0);
        DOC.due("property(0)", x.property(0), 71);
    }

    private static void rollbackOfCommits() {
        TrailGraph x = Sentences.withLoops(1);
        x.set(0, 1);
        x.begin();
        x.begin();
        x.begin();
        x.set(0, 2);
        x.label(0, 7);
        x.commit();
        x.cut(0);
        x.node(0);
        DOC.due("commit() within", x.commit(), 1);
        DOC.due("property(0) before", x.property(0), 2);
        DOC.due("there() before", x.there(), 3 + (1 << 20));
        DOC.due("rollback()", x.rollback(), 0);
        DOC.due("there()", x.there(), 1 + 256);
        DOC.due("property(0)", x.property(0), 1);
        DOC.due("label(0, 0)", x.label(0, 0), 0);
    }

    private static void beginTellsTheLevel() {
        TrailGraph x = new TrailGraph();
        for (int level = 1; level <= 4; level++) {
            DOC.due("begin()", x.begin(), level);
        }
        x.commit();
        x.rollback();
        DOC.due("begin() from 2", x.begin(), 3);
    }

    /** The refused begin must not keep the graph of now in the place of that of the fourth begin. */
    private static void beginWhenFull() {
        TrailGraph x = Sentences.withNodes(1);
        x.begin();
        x.begin();
        x.begin();
        DOC.due("begin() at 3", x.begin(), 4);
        x.set(0, 8);
        x.node(0);
        DOC.due("begin() at 4", x.begin(), FULL);
        DOC.due("begin() at 4, again", x.begin(), FULL);
        DOC.due("there()", x.there(), 3 + (4 << 20));
        DOC.due("property(0)", x.property(0), 8);
        DOC.due("rollback()", x.rollback(), 3);
        DOC.due("property(0) as at the fourth begin", x.property(0), NULL);
        DOC.due("there() as at the fourth begin", x.there(), 1 + (3 << 20));
    }

    private static void commitTellsTheLevel() {
        TrailGraph x = new TrailGraph();
        for (int i = 0; i < 4; i++) {
            x.begin();
        }
        for (int level = 3; level >= 0; level--) {
            DOC.due("commit()", x.commit(), level);
        }
    }

    private static void commitAtZero() {
        TrailGraph x = Sentences.withNodes(2);
        DOC.due("commit() at first", x.commit(), REFUSED);
        x.begin();
        x.commit();
        DOC.due("commit() at 0 again", x.commit(), REFUSED);
        DOC.due("there()", x.there(), 3);
        DOC.due("begin()", x.begin(), 1);
    }

    private static void rollbackTellsTheLevel() {
        TrailGraph x = new TrailGraph();
        for (int i = 0; i < 4; i++) {
            x.begin();
        }
        for (int level = 3; level >= 0; level--) {
            DOC.due("rollback()", x.rollback(), level);
        }
    }

    private static void rollbackAtZero() {
        TrailGraph x = Sentences.withLoops(1);
        x.set(0, 4);
        DOC.due("rollback() at first", x.rollback(), REFUSED);
        x.begin();
        x.rollback();
        x.set(0, 5);
        x.label(0, 6);
        DOC.due("rollback() at 0 again", x.rollback(), REFUSED);
        DOC.due("property(0)", x.property(0), 5);
        DOC.due("label(0, 6)", x.label(0, 6), 6);
        DOC.due("there()", x.there(), 1 + 256);
    }
}
