/** The boundary cases of trails, matches and what they answer: each sentence of the document has its own test. */
public final class MatchBoundaryTests {
    private static final int REFUSED = Sentences.REFUSED;
    private static final int MANY = Sentences.MANY;
    private static final long NULL = Sentences.NULL;

    private static final Sentences DOC = new Sentences();

    public static void main(String[] args) {
        testTrails();
        testMatches();
        testRows();
        testTotals();
        testLeast();
        DOC.close();
    }

    private static void testTrails() {
        DOC.test("terms", "a TRAIL of low to high edges (1 <= low <= high <= 3)", MatchBoundaryTests::lengths);
        DOC.test("terms", "from the node of the present variable to the node that v stands for", MatchBoundaryTests::ends);
        DOC.test("terms", "which has all these labels", MatchBoundaryTests::hopLabels);
        DOC.test("terms", "v is the present variable then. (HOP)", MatchBoundaryTests::hopIsPresent);
        DOC.test("terms", "Each edge's type is among types (bits 0 .. 2)", MatchBoundaryTests::types);
        DOC.test("terms", "direction 0: each is gone along", MatchBoundaryTests::along);
        DOC.test("terms", "1: against it", MatchBoundaryTests::against);
        DOC.test("terms", "2: either way.", MatchBoundaryTests::eitherWay);
        DOC.test("terms", "A variable stands for one node, wherever it is named.", MatchBoundaryTests::oneNode);
        DOC.test("terms", "a choice of ... the edges of all hops in their order", MatchBoundaryTests::orderOfEdges);
        DOC.test("terms", "no edge is chosen twice in the whole match", MatchBoundaryTests::noEdgeTwice);
        DOC.test("terms", "(With direction 2 an edge that leads from a node to the same one is one choice, not two.)",
            MatchBoundaryTests::loopIsOneChoice);
    }

    private static void testMatches() {
        DOC.test("promise 18", "How many matches there are", MatchBoundaryTests::matchesOfNoneAndAll);
        DOC.test("promise 18", "MANY if more than 1000.", MatchBoundaryTests::matchesAtThousand);
        DOC.test("promise 18", "0 without parts.", MatchBoundaryTests::matchesWithoutParts);
    }

    private static void testRows() {
        DOC.test("promise 19", "How many different choices of nodes the matches have", MatchBoundaryTests::rowsOfMatches);
        DOC.test("promise 19", "MANY likewise.", MatchBoundaryTests::rowsAtThousand);
        DOC.test("promise 19", "(0 without parts)", MatchBoundaryTests::rowsWithoutParts);
        DOC.test("promise 20", "The node of variable v in the k-th of these (0 the first)", MatchBoundaryTests::rowFirstAndLast);
        DOC.test("promise 20", "the node of variable 0 counts most, then 1, and so on, the lower first",
            MatchBoundaryTests::rowOrder);
        DOC.test("promise 20", "REFUSED if there is none", MatchBoundaryTests::rowOfNone);
        DOC.test("promise 20", "v is not named", MatchBoundaryTests::rowOfUnnamed);
        DOC.test("promise 20", "or matches() is MANY.", MatchBoundaryTests::rowOfMany);
        DOC.test("promise 27", "row ...: that matches() is MANY gives the answer named, whatever k and v are.",
            MatchBoundaryTests::rowOfManyWhatever);
    }

    private static void testTotals() {
        DOC.test("promise 21", "The sum of the properties of variable v over all matches", MatchBoundaryTests::totalOverMatches);
        DOC.test("promise 21", "(a sum beyond the ints)", MatchBoundaryTests::totalBeyondInt);
        DOC.test("promise 21", "those that are NULL left out", MatchBoundaryTests::totalWithoutNulls);
        DOC.test("promise 21", "NULL if there is none", MatchBoundaryTests::totalOfNone);
        DOC.test("promise 21", "v is not named", MatchBoundaryTests::totalOfUnnamed);
        DOC.test("promise 21", "or matches() is MANY.", MatchBoundaryTests::totalOfMany);
        DOC.test("promise 27", "total ...: that matches() is MANY gives the answer named, whatever ... v are.",
            MatchBoundaryTests::totalOfManyWhatever);
        DOC.test("promise 27", "total: NULL also if the property is NULL in all matches.", MatchBoundaryTests::totalOfNulls);
    }

    private static void testLeast() {
        DOC.test("promise 22", "The least sum of the weights of the edges of a match", MatchBoundaryTests::leastSum);
        DOC.test("promise 22", "REFUSED if there is none", MatchBoundaryTests::leastOfNone);
        DOC.test("promise 22", "or matches() is MANY.", MatchBoundaryTests::leastOfMany);
        DOC.test("promise 27", "least: 0 if the matches choose no edges.", MatchBoundaryTests::leastWithoutEdges);
    }

    // ---- trails ----

    /** A query of one hop, from variable 0 to variable 1. */
    private static int hop(TrailGraph x, int types, int direction, int low, int high) {
        x.forget();
        x.start(0, 0);
        x.hop(types, direction, low, high, 1, 0);
        return x.matches();
    }

    /** A query of one hop from variable 0 back to its node. */
    private static int round(TrailGraph x, int types, int direction, int low, int high) {
        x.forget();
        x.start(0, 0);
        x.hop(types, direction, low, high, 0, 0);
        return x.matches();
    }

    /** On a path of eight nodes there are 7, 6 and 5 trails of one, two and three edges. */
    private static void lengths() {
        int[] trails = {0, 7, 6, 5};
        for (int low = 1; low <= 3; low++) {
            for (int high = low; high <= 3; high++) {
                int want = 0;
                for (int length = low; length <= high; length++) {
                    want += trails[length];
                }
                TrailGraph x = Sentences.withPath(8);
                DOC.due("matches() of " + low + " to " + high, hop(x, 1, 0, low, high), want);
                DOC.due("least() of " + low + " to " + high, x.least(), low);
            }
        }
        DOC.due("no edge is no trail", round(Sentences.withPath(8), 1, 0, 1, 3), 0);
        TrailGraph x = Sentences.withPath(8);
        x.start(0, 0);
        x.hop(1, 0, 3, 3, 1, 0);
        x.hop(1, 0, 2, 2, 2, 0);
        DOC.due("five edges in all", x.matches(), 3);
        x.edge(4, 0, 0, 1);
        x.remove(6, true);
        x.remove(7, true);
        DOC.due("five edges in all, once on and five times round", x.matches(), 6);
    }

    private static void ends() {
        TrailGraph x = Sentences.withPath(4);
        DOC.due("matches()", hop(x, 1, 0, 3, 3), 1);
        DOC.due("row(0, 0)", x.row(0, 0), 0);
        DOC.due("row(0, 1)", x.row(0, 1), 3);
        x.edge(3, 0, 0, 1);
        DOC.due("back to the same node, four edges are too many", round(x, 1, 0, 1, 3), 0);
        x.cut(2);
        x.edge(2, 0, 0, 1);
        DOC.due("back to the same node, from three of them", round(x, 1, 0, 1, 3), 3);
        TrailGraph empty = new TrailGraph();
        DOC.due("without nodes", hop(empty, 7, 2, 1, 3), 0);
        DOC.due("without edges", hop(Sentences.withNodes(8), 7, 2, 1, 3), 0);
    }

    private static void hopLabels() {
        for (int has = 0; has < 16; has++) {
            for (int wanted = 0; wanted < 16; wanted++) {
                TrailGraph x = Sentences.withPath(3);
                x.label(2, has);
                x.start(0, 0);
                x.hop(1, 0, 2, 2, 1, wanted);
                DOC.due("matches() of " + wanted + " where " + has + " are", x.matches(), (has | wanted) == has ? 1 : 0);
            }
        }
        TrailGraph x = Sentences.withPath(3);
        x.label(0, 1);
        x.label(2, 2);
        x.start(0, 1);
        x.hop(1, 0, 2, 2, 1, 2);
        DOC.due("the node between needs no labels", x.matches(), 1);
        x.start(1, 4);
        DOC.due("a label from another part", x.matches(), 0);
    }

    private static void hopIsPresent() {
        TrailGraph x = Sentences.withPath(4);
        x.start(3, 0);
        x.hop(1, 0, 1, 1, 2, 0);
        x.hop(1, 0, 1, 1, 1, 0);
        x.hop(1, 0, 1, 1, 0, 0);
        DOC.due("matches()", x.matches(), 1);
        for (int v = 0; v < 4; v++) {
            DOC.due("row(0, " + v + ")", x.row(0, v), 3 - v);
        }
    }

    /** One edge of type 0, two of type 1, four of type 2. */
    private static void types() {
        TrailGraph x = Sentences.withNodes(2);
        for (int edge = 0; edge < 7; edge++) {
            x.edge(0, 1, edge < 1 ? 0 : edge < 3 ? 1 : 2, 0);
        }
        for (int types = 1; types <= 7; types++) {
            DOC.due("types " + types, hop(x, types, 0, 1, 1), types);
        }
        TrailGraph y = Sentences.withNodes(4);
        y.edge(0, 1, 0, 0);
        y.edge(1, 2, 1, 0);
        y.edge(2, 3, 2, 0);
        for (int types = 1; types <= 7; types++) {
            DOC.due("all three edges, types " + types, hop(y, types, 0, 3, 3), types == 7 ? 1 : 0);
        }
    }

    private static void along() {
        TrailGraph x = Sentences.withPath(3);
        DOC.due("matches()", hop(x, 1, 0, 1, 2), 3);
        DOC.due("row(0, 0)", x.row(0, 0), 0);
        DOC.due("row(0, 1)", x.row(0, 1), 1);
        DOC.due("row(2, 0)", x.row(2, 0), 1);
        TrailGraph y = Sentences.withNodes(3);
        y.edge(0, 1, 0, 0);
        y.edge(2, 1, 0, 0);
        DOC.due("two that meet", hop(y, 1, 0, 2, 2), 0);
        DOC.due("one to itself", hop(Sentences.withLoops(1), 1, 0, 1, 3), 1);
    }

    private static void against() {
        TrailGraph x = Sentences.withPath(3);
        DOC.due("matches()", hop(x, 1, 1, 1, 2), 3);
        DOC.due("row(0, 0)", x.row(0, 0), 1);
        DOC.due("row(0, 1)", x.row(0, 1), 0);
        DOC.due("row(2, 0)", x.row(2, 0), 2);
        TrailGraph y = Sentences.withNodes(3);
        y.edge(1, 0, 0, 0);
        y.edge(1, 2, 0, 0);
        DOC.due("two that part", hop(y, 1, 1, 2, 2), 0);
        DOC.due("one to itself", hop(Sentences.withLoops(1), 1, 1, 1, 3), 1);
    }

    private static void eitherWay() {
        TrailGraph x = Sentences.withPath(3);
        DOC.due("one edge", hop(x, 1, 2, 1, 1), 4);
        DOC.due("two edges", hop(x, 1, 2, 2, 2), 2);
        TrailGraph y = Sentences.withNodes(4);
        y.edge(0, 1, 0, 0);
        y.edge(2, 1, 0, 0);
        y.edge(2, 3, 0, 0);
        DOC.due("three, each its own way", hop(y, 1, 2, 3, 3), 2);
        DOC.due("row(0, 0)", y.row(0, 0), 0);
        DOC.due("row(0, 1)", y.row(0, 1), 3);
        DOC.due("row(1, 0)", y.row(1, 0), 3);
    }

    private static void oneNode() {
        TrailGraph x = Sentences.withPath(3);
        x.edge(2, 2, 0, 1);
        x.start(0, 0);
        x.start(0, 0);
        DOC.due("a variable in two parts", x.matches(), 3);
        x.hop(1, 0, 1, 1, 0, 0);
        DOC.due("from it to itself", x.matches(), 1);
        DOC.due("row(0, 0)", x.row(0, 0), 2);
        TrailGraph y = Sentences.withPath(3);
        y.start(0, 0);
        y.hop(1, 0, 1, 1, 1, 0);
        y.start(2, 0);
        y.hop(1, 0, 1, 1, 0, 0);
        DOC.due("the end of one hop is the start of another", y.matches(), 1);
        DOC.due("row(0, 2)", y.row(0, 2), 0);
        DOC.due("row(0, 0)", y.row(0, 0), 1);
        DOC.due("row(0, 1)", y.row(0, 1), 2);
        TrailGraph two = Sentences.withNodes(1);
        two.start(0, 0);
        two.start(1, 0);
        two.start(2, 0);
        two.start(3, 0);
        DOC.due("different variables may stand for the same node", two.matches(), 1);
    }

    /** The same edges in another order, or shared out among the hops in another way, are another choice. */
    private static void orderOfEdges() {
        TrailGraph x = Sentences.withLoops(3);
        DOC.due("one of three", round(x, 1, 0, 1, 1), 3);
        DOC.due("two of three in order", round(x, 1, 0, 2, 2), 6);
        DOC.due("three of three in order", round(x, 1, 0, 3, 3), 6);
        x.hop(1, 0, 1, 1, 0, 0);
        DOC.due("no fourth", x.matches(), 0);
        x.forget();
        x.start(0, 0);
        x.hop(1, 0, 1, 2, 0, 0);
        x.hop(1, 0, 1, 2, 0, 0);
        DOC.due("one and one, one and two, two and one", x.matches(), 6 + 6 + 6);
        DOC.due("rows()", x.rows(), 1);
    }

    private static void noEdgeTwice() {
        TrailGraph x = Sentences.withPath(2);
        DOC.due("there and back in one hop", hop(x, 1, 2, 2, 3), 0);
        x.forget();
        x.start(0, 0);
        x.hop(1, 0, 1, 1, 1, 0);
        x.hop(1, 1, 1, 1, 2, 0);
        DOC.due("there and back in two hops", x.matches(), 0);
        x.forget();
        x.start(0, 0);
        x.hop(1, 0, 1, 1, 1, 0);
        x.start(2, 0);
        x.hop(1, 0, 1, 1, 3, 0);
        DOC.due("in two hops that do not touch", x.matches(), 0);
        x.edge(0, 1, 0, 5);
        DOC.due("with two edges, one each", x.matches(), 2);
        DOC.due("there and back over both", hop(x, 1, 2, 2, 2), 4);
        DOC.due("nodes may come again", hop(x, 1, 2, 2, 3), 4);
        TrailGraph loops = Sentences.withLoops(4);
        loops.start(0, 0);
        loops.hop(1, 0, 1, 3, 0, 0);
        loops.hop(1, 0, 2, 2, 0, 0);
        DOC.due("four edges for three to five", loops.matches(), 24 + 24);
        loops.cut(0);
        loops.cut(1);
        DOC.due("two edges for three to five", loops.matches(), 0);
    }

    private static void loopIsOneChoice() {
        TrailGraph x = Sentences.withLoops(1);
        DOC.due("one edge", round(x, 1, 2, 1, 1), 1);
        DOC.due("one to three of one", round(x, 1, 2, 1, 3), 1);
        x.edge(0, 0, 0, 1);
        DOC.due("one of two edges", round(x, 1, 2, 1, 1), 2);
        DOC.due("one or two of two edges", round(x, 1, 2, 1, 2), 4);
        x.node(0);
        x.edge(0, 1, 0, 1);
        DOC.due("two to itself and then one on", hop(x, 1, 2, 3, 3), 2 + 2);
    }

    // ---- matches ----

    private static void matchesOfNoneAndAll() {
        TrailGraph x = new TrailGraph();
        x.start(0, 0);
        DOC.due("without nodes", x.matches(), 0);
        for (int nodes = 1; nodes <= 8; nodes++) {
            x.node(0);
            DOC.due("with " + nodes, x.matches(), nodes);
        }
        x.remove(0, false);
        x.remove(7, false);
        DOC.due("nodes that are gone don't match", x.matches(), 6);
        DOC.due("row(0, 0)", x.row(0, 0), 1);
        DOC.due("row(5, 0)", x.row(5, 0), 6);
        x.start(0, 8);
        DOC.due("no node has the label", x.matches(), 0);
    }

    private static void matchesAtThousand() {
        TrailGraph rows = Sentences.withThousandRows();
        DOC.due("1000 in rows of their own", rows.matches(), 1000);
        rows.label(5, 1);
        DOC.due("6 * 6 * 6 * 8", rows.matches(), MANY);
        TrailGraph x = Sentences.withThousandAndOne();
        DOC.due("1001", x.matches(), MANY);
        x.cut(4);
        DOC.due("1000", x.matches(), 1000);
        x.edge(1, 1, 0, 1);
        DOC.due("1001 again", x.matches(), MANY);
        TrailGraph most = Sentences.withLoops(12);
        most.start(0, 0);
        most.hop(7, 2, 1, 3, 0, 0);
        most.hop(7, 2, 1, 2, 0, 0);
        DOC.due("all the edges that can be in one row", most.matches(), MANY);
        TrailGraph all = Sentences.withNodes(8);
        for (int v = 0; v < 4; v++) {
            all.start(v, 0);
        }
        DOC.due("8 * 8 * 8 * 8", all.matches(), MANY);
        DOC.due("the constant", TrailGraph.MANY, MANY);
    }

    private static void matchesWithoutParts() {
        TrailGraph x = Sentences.withLoops(3);
        DOC.due("at first", x.matches(), 0);
        Sentences.where(x, 11, 1000, 1000);
        DOC.due("with a condition that is true", x.matches(), 0);
        x.start(0, 0);
        DOC.due("with a part", x.matches(), 1);
        x.forget();
        DOC.due("after forget()", x.matches(), 0);
    }

    // ---- rows ----

    private static void rowsOfMatches() {
        TrailGraph x = Sentences.withPath(3);
        DOC.due("matches()", hop(x, 1, 0, 1, 1), 2);
        DOC.due("rows()", x.rows(), 2);
        x.edge(0, 1, 0, 0);
        x.edge(0, 1, 0, 0);
        DOC.due("matches() with two more edges", x.matches(), 4);
        DOC.due("rows()", x.rows(), 2);
        Sentences.where(x, 12, 1000);
        DOC.due("rows() without matches", x.rows(), 0);
        TrailGraph empty = new TrailGraph();
        empty.start(0, 0);
        DOC.due("rows() without nodes", empty.rows(), 0);
    }

    private static void rowsAtThousand() {
        TrailGraph x = Sentences.withThousandRows();
        DOC.due("1000 matches, 1000 rows", x.rows(), 1000);
        x.label(5, 1);
        DOC.due("more", x.rows(), MANY);
        TrailGraph few = Sentences.withThousandAndOne();
        DOC.due("1001 matches, 26 rows", few.rows(), MANY);
        few.cut(4);
        DOC.due("1000 matches, 25 rows", few.rows(), 25);
        TrailGraph one = Sentences.withLoops(12);
        one.start(0, 0);
        one.hop(1, 0, 3, 3, 0, 0);
        DOC.due("1320 matches, one row", one.rows(), MANY);
        one.cut(0);
        DOC.due("990 matches, one row", one.rows(), 1);
    }

    private static void rowsWithoutParts() {
        TrailGraph x = Sentences.withNodes(3);
        DOC.due("at first", x.rows(), 0);
        x.start(0, 0);
        DOC.due("with a part", x.rows(), 3);
        x.forget();
        DOC.due("after forget()", x.rows(), 0);
    }

    private static void rowFirstAndLast() {
        TrailGraph x = Sentences.withThousandRows();
        for (int v = 0; v < 4; v++) {
            DOC.due("row(0, " + v + ")", x.row(0, v), 0);
            DOC.due("row(999, " + v + ")", x.row(999, v), v == 2 ? 7 : 4);
        }
        DOC.due("row(1, 3)", x.row(1, 3), 1);
        DOC.due("row(998, 3)", x.row(998, 3), 3);
        TrailGraph one = Sentences.withLoops(2);
        one.start(3, 0);
        one.hop(1, 0, 1, 1, 3, 0);
        DOC.due("two matches in one row: row(0, 3)", one.row(0, 3), 0);
        DOC.due("two matches in one row: row(1, 3)", one.row(1, 3), REFUSED);
    }

    /** The parts name the variables from the last to the first, which must not matter. */
    private static void rowOrder() {
        TrailGraph x = Sentences.withNodes(5);
        for (int v = 3; v >= 0; v--) {
            x.start(v, 0);
        }
        for (int k : new int[] {0, 1, 4, 5, 24, 25, 124, 125, 311, 500, 623, 624}) {
            DOC.due("row(" + k + ", 0)", x.row(k, 0), k / 125);
            DOC.due("row(" + k + ", 1)", x.row(k, 1), k / 25 % 5);
            DOC.due("row(" + k + ", 2)", x.row(k, 2), k / 5 % 5);
            DOC.due("row(" + k + ", 3)", x.row(k, 3), k % 5);
        }
        TrailGraph y = Sentences.withNodes(8);
        y.edge(7, 0, 0, 0);
        y.edge(0, 7, 0, 0);
        y.edge(3, 3, 0, 0);
        y.start(3, 0);
        y.hop(1, 0, 1, 1, 1, 0);
        int[][] want = {{0, 7}, {3, 3}, {7, 0}};
        for (int k = 0; k < 3; k++) {
            DOC.due("row(" + k + ", 1)", y.row(k, 1), want[k][0]);
            DOC.due("row(" + k + ", 3)", y.row(k, 3), want[k][1]);
        }
    }

    private static void rowOfNone() {
        DOC.due("without parts", Sentences.withNodes(1).row(0, 0), REFUSED);
        TrailGraph empty = new TrailGraph();
        empty.start(0, 0);
        DOC.due("without matches", empty.row(0, 0), REFUSED);
        TrailGraph x = Sentences.withNodes(3);
        x.start(0, 0);
        DOC.due("row(2, 0) of 3", x.row(2, 0), 2);
        for (int k : new int[] {3, 4, 999, 1000, 1001, 1 << 20, Integer.MAX_VALUE, -1, -2, Integer.MIN_VALUE}) {
            DOC.due("row(" + k + ", 0) of 3", x.row(k, 0), REFUSED);
        }
        TrailGraph full = Sentences.withThousandRows();
        DOC.due("row(1000, 0) of 1000", full.row(1000, 0), REFUSED);
        DOC.due("row(1001, 0) of 1000", full.row(1001, 0), REFUSED);
        DOC.due("row(-1, 0) of 1000", full.row(-1, 0), REFUSED);
        full.forget();
        DOC.due("after forget()", full.row(0, 0), REFUSED);
    }

    private static void rowOfUnnamed() {
        TrailGraph x = Sentences.withNodes(2);
        x.start(1, 0);
        for (int v : Sentences.NO_VARIABLES) {
            DOC.due("row(0, " + v + ")", x.row(0, v), REFUSED);
        }
        DOC.due("row(0, 0)", x.row(0, 0), REFUSED);
        DOC.due("row(0, 2)", x.row(0, 2), REFUSED);
        DOC.due("row(0, 3)", x.row(0, 3), REFUSED);
        DOC.due("row(1, 1)", x.row(1, 1), 1);
    }

    private static void rowOfMany() {
        TrailGraph x = Sentences.withThousandAndOne();
        DOC.due("1001: row(0, 0)", x.row(0, 0), REFUSED);
        x.cut(4);
        DOC.due("1000: row(0, 0)", x.row(0, 0), 0);
        DOC.due("1000: row(24, 2)", x.row(24, 2), 4);
        DOC.due("1000: row(25, 2)", x.row(25, 2), REFUSED);
    }

    private static void rowOfManyWhatever() {
        TrailGraph x = Sentences.withThousandAndOne();
        for (int k : new int[] {Integer.MIN_VALUE, -1, 0, 1, 25, 26, 999, 1000, 1001, Integer.MAX_VALUE}) {
            for (int v = -1; v <= 4; v++) {
                DOC.due("row(" + k + ", " + v + ")", x.row(k, v), REFUSED);
            }
        }
    }

    // ---- totals ----

    private static void totalOverMatches() {
        TrailGraph x = Sentences.withPath(3);
        x.edge(0, 1, 1, 0);
        for (int node = 0; node < 3; node++) {
            x.set(node, 10 * node - 5);
        }
        hop(x, 7, 0, 1, 2);
        DOC.due("rows()", x.rows(), 3);
        DOC.due("matches()", x.matches(), 5);
        DOC.due("total(0)", x.total(0), 4 * -5 + 5);
        DOC.due("total(1)", x.total(1), 2 * 5 + 3 * 15);
        TrailGraph full = Sentences.withThousandRows();
        for (int node = 0; node < 8; node++) {
            full.set(node, 1);
        }
        for (int v = 0; v < 4; v++) {
            DOC.due("total(" + v + ") of 1000", full.total(v), 1000);
        }
        TrailGraph zero = Sentences.withNodes(2);
        zero.set(0, 3);
        zero.set(1, -3);
        zero.start(0, 0);
        DOC.due("a sum of 0 is not NULL", zero.total(0), 0);
        zero.set(0, 0);
        zero.set(1, 0);
        DOC.due("nor are zeros", zero.total(0), 0);
    }

    private static void totalBeyondInt() {
        for (int value : new int[] {Integer.MIN_VALUE, Integer.MAX_VALUE}) {
            TrailGraph x = Sentences.withThousandRows();
            for (int node = 0; node < 8; node++) {
                x.set(node, value);
            }
            DOC.due("1000 times " + value, x.total(2), 1000L * value);
            x.forget();
            x.start(0, 0);
            DOC.due("8 times " + value, x.total(0), 8L * value);
            TrailGraph one = Sentences.withLoops(11);
            one.set(0, value);
            one.start(0, 0);
            one.hop(1, 0, 3, 3, 0, 0);
            DOC.due("990 times " + value + " in one row", one.total(0), 990L * value);
        }
    }

    private static void totalWithoutNulls() {
        TrailGraph x = Sentences.withNodes(8);
        x.set(2, 7);
        x.set(7, Integer.MIN_VALUE);
        x.start(0, 0);
        x.start(1, 0);
        DOC.due("total(0)", x.total(0), 8 * (7L + Integer.MIN_VALUE));
        x.clear(7);
        DOC.due("total(1) when one is cleared", x.total(1), 8 * 7);
    }

    private static void totalOfNone() {
        TrailGraph x = new TrailGraph();
        DOC.due("without parts", x.total(0), NULL);
        x.start(0, 0);
        DOC.due("without nodes", x.total(0), NULL);
        x.node(0);
        x.set(0, 4);
        DOC.due("with a match", x.total(0), 4);
        Sentences.where(x, 12, 0);
        DOC.due("without a match", x.total(0), NULL);
        x.forget();
        DOC.due("after forget()", x.total(0), NULL);
    }

    private static void totalOfUnnamed() {
        TrailGraph x = Sentences.withNodes(1);
        x.set(0, 4);
        x.start(2, 0);
        for (int v : Sentences.NO_VARIABLES) {
            DOC.due("total(" + v + ")", x.total(v), NULL);
        }
        DOC.due("total(0)", x.total(0), NULL);
        DOC.due("total(1)", x.total(1), NULL);
        DOC.due("total(3)", x.total(3), NULL);
        DOC.due("total(2)", x.total(2), 4);
    }

    private static void totalOfMany() {
        TrailGraph x = Sentences.withThousandAndOne();
        x.set(2, 1);
        DOC.due("1001: total(1)", x.total(1), NULL);
        x.cut(4);
        DOC.due("1000: total(1)", x.total(1), 400);
        DOC.due("1000: total(0)", x.total(0), NULL);
    }

    private static void totalOfManyWhatever() {
        TrailGraph x = Sentences.withThousandAndOne();
        x.set(2, 1);
        x.set(3, 1);
        for (int v = -1; v <= 4; v++) {
            DOC.due("total(" + v + ")", x.total(v), NULL);
        }
        for (int v : Sentences.NO_VARIABLES) {
            DOC.due("total(" + v + ")", x.total(v), NULL);
        }
    }

    private static void totalOfNulls() {
        TrailGraph x = Sentences.withPath(3);
        x.set(0, 5);
        hop(x, 1, 0, 1, 1);
        DOC.due("matches()", x.matches(), 2);
        DOC.due("total(1), NULL in both", x.total(1), NULL);
        DOC.due("total(0), NULL in one", x.total(0), 5);
        x.clear(0);
        DOC.due("total(0), NULL in both", x.total(0), NULL);
        x.set(2, 0);
        DOC.due("total(1), 0 in one", x.total(1), 0);
    }

    // ---- least ----

    private static void leastSum() {
        TrailGraph x = Sentences.withNodes(2);
        x.edge(0, 1, 0, 100);
        hop(x, 1, 0, 1, 1);
        DOC.due("the greatest weight", x.least(), 100);
        x.edge(0, 1, 0, 99);
        DOC.due("the lesser of two", x.least(), 99);
        x.edge(0, 1, 0, 0);
        DOC.due("the least weight", x.least(), 0);
        x.edge(0, 1, 0, 7);
        DOC.due("not the last one", x.least(), 0);
        x.cut(3);
        x.edge(1, 0, 0, 40);
        hop(x, 1, 0, 2, 2);
        DOC.due("two edges", x.least(), 40);
        x.cut(2);
        DOC.due("two edges", x.least(), 139);
        TrailGraph five = Sentences.withNodes(1);
        for (int i = 0; i < 5; i++) {
            five.edge(0, 0, 0, 100);
        }
        five.start(0, 0);
        five.hop(1, 0, 3, 3, 0, 0);
        five.hop(1, 0, 2, 2, 0, 0);
        DOC.due("the greatest sum", five.least(), 500);
        TrailGraph later = Sentences.withNodes(8);
        later.edge(0, 1, 0, 50);
        later.edge(7, 6, 0, 3);
        hop(later, 1, 0, 1, 1);
        DOC.due("in the last row", later.least(), 3);
        TrailGraph apart = Sentences.withNodes(4);
        apart.edge(0, 1, 0, 4);
        apart.edge(2, 3, 0, 9);
        apart.start(0, 0);
        apart.hop(1, 0, 1, 1, 1, 0);
        apart.start(2, 0);
        apart.hop(1, 0, 1, 1, 3, 0);
        DOC.due("of all hops", apart.least(), 13);
    }

    private static void leastOfNone() {
        TrailGraph x = Sentences.withNodes(2);
        DOC.due("without parts", x.least(), REFUSED);
        x.start(0, 0);
        x.hop(7, 2, 1, 3, 1, 0);
        DOC.due("without matches", x.least(), REFUSED);
        x.edge(0, 1, 0, 7);
        DOC.due("with matches", x.least(), 7);
        Sentences.where(x, 12, 1000);
        DOC.due("without matches under a condition", x.least(), REFUSED);
        x.forget();
        DOC.due("after forget()", x.least(), REFUSED);
        TrailGraph empty = new TrailGraph();
        empty.start(0, 0);
        DOC.due("without nodes", empty.least(), REFUSED);
    }

    private static void leastOfMany() {
        TrailGraph x = Sentences.withThousandAndOne();
        DOC.due("1001", x.least(), REFUSED);
        x.cut(4);
        DOC.due("1000", x.least(), 1);
        TrailGraph nodes = Sentences.withThousandRows();
        DOC.due("1000 without edges", nodes.least(), 0);
        nodes.label(5, 1);
        DOC.due("more without edges", nodes.least(), REFUSED);
    }

    private static void leastWithoutEdges() {
        TrailGraph x = Sentences.withLoops(3);
        x.start(0, 0);
        DOC.due("one start", x.least(), 0);
        x.start(3, 0);
        DOC.due("two starts", x.least(), 0);
        TrailGraph bare = Sentences.withNodes(1);
        bare.start(0, 0);
        DOC.due("no edges there", bare.least(), 0);
    }
}
