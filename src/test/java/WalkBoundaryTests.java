import java.util.Arrays;

/** The boundary cases of expressions and walks: each sentence of the document has its own test. */
public final class WalkBoundaryTests {
    private static final int REFUSED = Sentences.REFUSED;

    private static final Sentences DOC = new Sentences();

    public static void main(String[] args) {
        testSpelling();
        testExpressions();
        testWalks();
        DOC.close();
    }

    private static void testSpelling() {
        DOC.test("promise 17", "Takes the pending list (nothing is pending then) as the expression: true.",
            WalkBoundaryTests::spellTakesThePending);
        DOC.test("promise 17", "False, and it stays, if it is none", WalkBoundaryTests::spellOfNone);
        DOC.test("promise 17", "(a list without tokens is none)", WalkBoundaryTests::spellWithoutTokens);
        DOC.test("promise 17", "or has more than 10 tokens.", WalkBoundaryTests::spellOfMoreThanTen);
        DOC.test("promise 27", "spell: nothing is pending afterwards also if they answer false.",
            WalkBoundaryTests::spellFalseEmptiesPending);
    }

    private static void testExpressions() {
        DOC.test("terms", "An EXPRESSION is a prefix list of at most 10 tokens", WalkBoundaryTests::tenTokens);
        DOC.test("terms", "0 .. 2 an edge of that type gone along", WalkBoundaryTests::typesAlong);
        DOC.test("terms", "3 .. 5 an edge of type 0 .. 2 gone against", WalkBoundaryTests::typesAgainst);
        DOC.test("terms", "10 first the one, then the other", WalkBoundaryTests::firstThen);
        DOC.test("terms", "11 one or the other", WalkBoundaryTests::oneOrOther);
        DOC.test("terms", "12 any number of times, also none", WalkBoundaryTests::anyNumber);
        DOC.test("terms", "13 one time or more", WalkBoundaryTests::onceOrMore);
        DOC.test("terms", "14 once or not.", WalkBoundaryTests::onceOrNot);
        DOC.test("terms", "A walk may use edges and nodes again.", WalkBoundaryTests::edgesAgain);
    }

    private static void testWalks() {
        DOC.test("promise 23", "The least number of edges of a walk", WalkBoundaryTests::leastNumber);
        DOC.test("promise 23", "REFUSED if there is none", WalkBoundaryTests::noWalk);
        DOC.test("promise 23", "a node is not there", WalkBoundaryTests::walkWhereNoNodeIs);
        DOC.test("promise 23", "or there is no expression.", WalkBoundaryTests::walkWithoutExpression);
        DOC.test("promise 24", "The nodes (bit k for node k) to which such a walk leads", WalkBoundaryTests::reachOfNodes);
        DOC.test("promise 24", "0 likewise. (there is none)", WalkBoundaryTests::reachOfNone);
        DOC.test("promise 24", "0 likewise. (a node is not there)", WalkBoundaryTests::reachWhereNoNodeIs);
        DOC.test("promise 24", "0 likewise. (there is no expression)", WalkBoundaryTests::reachWithoutExpression);
    }

    private static void dueWalk(TrailGraph x, int from, int to, int want) {
        DOC.due("walk(" + from + ", " + to + ")", x.walk(from, to), want);
    }

    // ---- spelling ----

    private static void spellTakesThePending() {
        TrailGraph x = Sentences.withPath(2);
        DOC.due("spell()", Sentences.spell(x, 0), true);
        dueWalk(x, 0, 1, 1);
        DOC.due("nothing is pending", x.token(3), 1);
        dueWalk(x, 0, 1, 1);
        dueWalk(x, 1, 0, REFUSED);
        DOC.due("spell()", x.spell(), true);
        dueWalk(x, 0, 1, REFUSED);
        dueWalk(x, 1, 0, 1);
        x.start(0, 0);
        Sentences.where(x, 12, 0);
        dueWalk(x, 1, 0, 1);
        DOC.due("a condition is not taken from the expression: matches()", x.matches(), 2);
    }

    private static void spellOfNone() {
        int[][] none = {
            {10}, {11}, {12}, {13}, {14}, {15}, {16}, {1000}, {10999},
            {0, 0}, {0, 1, 2}, {5, 10}, {0, 12}, {10, 0}, {11, 0}, {10, 0, 0, 0}, {11, 0, 1, 2}, {12, 0, 0}, {13, 1, 1},
            {14, 2, 2}, {15, 0, 0}, {16, 0}, {10, 0, 15}, {10, 15, 0, 0}, {12, 16, 0}, {11, 0, 1000}, {12, 1000},
            {10, 10, 0, 0}, {11, 10, 0, 0}, {10, 12, 0}, {12, 10, 0}, {0, 0, 10}, {12, 0, 12}, {0, 1000},
            Sentences.repeated(10, 10), Sentences.repeated(12, 10), Sentences.repeated(0, 10), Sentences.repeated(14, 9, 16),
            {10, 10, 10, 10, 10, 0, 0, 0, 0, 0}, {10, 10, 10, 10, 0, 0, 0, 0, 0, 0},
        };
        TrailGraph x = Sentences.withPath(3);
        Sentences.spell(x, 0);
        for (int[] list : none) {
            DOC.due("spell() of " + Arrays.toString(list), Sentences.spell(x, list), false);
            dueWalk(x, 0, 1, 1);
            dueWalk(x, 0, 0, REFUSED);
            DOC.due("reach(1) by the old expression", x.reach(1), 4);
        }
    }

    private static void spellWithoutTokens() {
        TrailGraph x = Sentences.withPath(2);
        DOC.due("at first", x.spell(), false);
        dueWalk(x, 0, 0, REFUSED);
        Sentences.spell(x, 0);
        DOC.due("after an expression", x.spell(), false);
        dueWalk(x, 0, 1, 1);
    }

    private static void spellOfMoreThanTen() {
        TrailGraph x = Sentences.withPath(3);
        DOC.due("ten", Sentences.spell(x, Sentences.repeated(14, 9, 0)), true);
        dueWalk(x, 0, 1, 1);
        dueWalk(x, 0, 2, REFUSED);
        DOC.due("eleven", Sentences.spell(x, Sentences.repeated(12, 10, 0)), false);
        dueWalk(x, 0, 2, REFUSED);
        DOC.due("twelve", Sentences.spell(x, Sentences.repeated(12, 11, 0)), false);
        dueWalk(x, 0, 2, REFUSED);
        DOC.due("eleven with two sides", Sentences.spell(x, 10, 10, 10, 10, 10, 0, 0, 0, 0, 0, 0), false);
        dueWalk(x, 0, 1, 1);
        DOC.due("ten again", Sentences.spell(x, Sentences.repeated(12, 9, 0)), true);
        dueWalk(x, 0, 2, 2);
    }

    private static void spellFalseEmptiesPending() {
        TrailGraph x = Sentences.withPath(2);
        int[][] lists = {{10}, {0, 0}, {16}, {1000}, Sentences.repeated(12, 10, 0), Sentences.repeated(0, 12)};
        for (int[] list : lists) {
            DOC.due("spell() of " + Arrays.toString(list), Sentences.spell(x, list), false);
            DOC.due("token(0)", x.token(0), 1);
            DOC.due("spell() of it", x.spell(), true);
        }
    }

    // ---- expressions ----

    private static void tenTokens() {
        TrailGraph x = Sentences.withPath(8);
        DOC.due("five edges and four signs", Sentences.spell(x, 10, 0, 10, 0, 10, 0, 10, 0, 0), true);
        dueWalk(x, 0, 5, 5);
        DOC.due("and one more", Sentences.spell(x, 10, 0, 10, 0, 10, 0, 10, 0, 12, 0), true);
        dueWalk(x, 0, 3, REFUSED);
        dueWalk(x, 0, 4, 4);
        dueWalk(x, 0, 7, 7);
        DOC.due("signs first", Sentences.spell(x, 10, 10, 10, 10, 0, 0, 0, 0, 13, 0), true);
        dueWalk(x, 0, 4, REFUSED);
        dueWalk(x, 0, 5, 5);
        DOC.due("one token", Sentences.spell(x, 3), true);
        dueWalk(x, 7, 6, 1);
    }

    /** Nodes 0 -> 1, 1 -> 2, 2 -> 3 of types 0, 1, 2. */
    private static TrailGraph withTypes() {
        TrailGraph x = Sentences.withNodes(4);
        for (int type = 0; type < 3; type++) {
            x.edge(type, type + 1, type, 0);
        }
        return x;
    }

    private static void typesAlong() {
        TrailGraph x = withTypes();
        for (int type = 0; type < 3; type++) {
            Sentences.spell(x, type);
            for (int from = 0; from < 4; from++) {
                DOC.due("reach(" + from + ") by " + type, x.reach(from), from == type ? 2 << from : 0);
            }
        }
    }

    private static void typesAgainst() {
        TrailGraph x = withTypes();
        for (int type = 0; type < 3; type++) {
            Sentences.spell(x, 3 + type);
            for (int from = 0; from < 4; from++) {
                DOC.due("reach(" + from + ") by " + (3 + type), x.reach(from), from == type + 1 ? 1 << type : 0);
            }
        }
        TrailGraph loop = Sentences.withLoops(1);
        Sentences.spell(loop, 3);
        dueWalk(loop, 0, 0, 1);
    }

    private static void firstThen() {
        TrailGraph x = withTypes();
        Sentences.spell(x, 10, 0, 1);
        dueWalk(x, 0, 2, 2);
        dueWalk(x, 0, 1, REFUSED);
        dueWalk(x, 1, 2, REFUSED);
        Sentences.spell(x, 10, 1, 0);
        DOC.due("the other order: reach(0)", x.reach(0), 0);
        Sentences.spell(x, 10, 14, 0, 14, 1);
        dueWalk(x, 0, 0, 0);
        dueWalk(x, 0, 1, 1);
        dueWalk(x, 1, 2, 1);
        dueWalk(x, 0, 2, 2);
        dueWalk(x, 3, 3, 0);
        Sentences.spell(x, 10, 0, 3);
        dueWalk(x, 0, 0, 2);
        dueWalk(x, 1, 1, REFUSED);
    }

    private static void oneOrOther() {
        TrailGraph x = withTypes();
        x.edge(0, 2, 2, 0);
        Sentences.spell(x, 11, 0, 1);
        dueWalk(x, 0, 1, 1);
        dueWalk(x, 1, 2, 1);
        dueWalk(x, 0, 2, REFUSED);
        Sentences.spell(x, 11, 2, 10, 0, 1);
        dueWalk(x, 0, 2, 1);
        Sentences.spell(x, 11, 10, 0, 1, 2);
        dueWalk(x, 0, 2, 1);
        dueWalk(x, 2, 3, 1);
        x.cut(3);
        dueWalk(x, 0, 2, 2);
        Sentences.spell(x, 11, 0, 0);
        dueWalk(x, 0, 1, 1);
        for (int node = 0; node < 8; node += 7) {
            TrailGraph loop = Sentences.withNodes(8);
            loop.edge(node, node, 0, 0);
            Sentences.spell(loop, 11, 0, 1);
            dueWalk(loop, node, node, 1);
            Sentences.spell(loop, 11, 1, 0);
            dueWalk(loop, node, node, 1);
        }
    }

    private static void anyNumber() {
        TrailGraph x = Sentences.withPath(8);
        Sentences.spell(x, 12, 0);
        for (int from = 0; from < 8; from++) {
            for (int to = 0; to < 8; to++) {
                dueWalk(x, from, to, from <= to ? to - from : REFUSED);
            }
        }
        Sentences.spell(x, 12, 1);
        dueWalk(x, 4, 4, 0);
        dueWalk(x, 4, 5, REFUSED);
        Sentences.spell(x, 12, 10, 0, 0);
        dueWalk(x, 1, 7, 6);
        dueWalk(x, 1, 6, REFUSED);
    }

    private static void onceOrMore() {
        TrailGraph x = Sentences.withPath(8);
        Sentences.spell(x, 13, 0);
        for (int from = 0; from < 8; from++) {
            for (int to = 0; to < 8; to++) {
                dueWalk(x, from, to, from < to ? to - from : REFUSED);
            }
        }
        x.edge(7, 0, 0, 0);
        dueWalk(x, 3, 3, 8);
        dueWalk(x, 3, 2, 7);
        Sentences.spell(x, 13, 14, 1);
        dueWalk(x, 3, 3, 0);
    }

    private static void onceOrNot() {
        TrailGraph x = Sentences.withPath(3);
        x.edge(2, 2, 0, 0);
        Sentences.spell(x, 14, 0);
        dueWalk(x, 0, 0, 0);
        dueWalk(x, 0, 1, 1);
        dueWalk(x, 0, 2, REFUSED);
        dueWalk(x, 2, 2, 0);
        Sentences.spell(x, 14, 10, 0, 0);
        dueWalk(x, 0, 0, 0);
        dueWalk(x, 0, 1, REFUSED);
        dueWalk(x, 0, 2, 2);
    }

    private static void edgesAgain() {
        TrailGraph x = Sentences.withPath(2);
        Sentences.spell(x, 10, 0, 10, 3, 10, 0, 10, 3, 0);
        dueWalk(x, 0, 1, 5);
        dueWalk(x, 0, 0, REFUSED);
        Sentences.spell(x, 12, 11, 0, 3);
        dueWalk(x, 0, 0, 0);
        TrailGraph loop = Sentences.withLoops(1);
        Sentences.spell(loop, 10, 0, 10, 0, 10, 0, 10, 0, 0);
        dueWalk(loop, 0, 0, 5);
    }

    // ---- walks ----

    /** A ring of eight nodes, in steps that do or don't divide it, and then with a shorter way from 0 to 2. */
    private static void leastNumber() {
        TrailGraph x = Sentences.withPath(8);
        x.edge(7, 0, 0, 0);
        x.edge(0, 0, 1, 0);
        Sentences.spell(x, 13, 10, 0, 10, 0, 0);
        dueWalk(x, 0, 3, 3);
        dueWalk(x, 0, 1, 9);
        dueWalk(x, 0, 5, 21);
        dueWalk(x, 0, 0, 24);
        Sentences.spell(x, 10, 13, 0, 10, 1, 13, 0);
        dueWalk(x, 1, 1, 9);
        dueWalk(x, 0, 0, 17);
        Sentences.spell(x, 12, 10, 0, 10, 0, 10, 0, 0);
        dueWalk(x, 0, 0, 0);
        dueWalk(x, 0, 4, 4);
        dueWalk(x, 0, 2, REFUSED);
        x.edge(0, 2, 0, 0);
        dueWalk(x, 0, 2, 8);
        Sentences.spell(x, 13, 0);
        dueWalk(x, 0, 2, 1);
        dueWalk(x, 0, 7, 6);
    }

    private static void noWalk() {
        TrailGraph x = Sentences.withNodes(8);
        Sentences.spell(x, 13, 11, 0, 11, 1, 2);
        dueWalk(x, 0, 7, REFUSED);
        dueWalk(x, 7, 7, REFUSED);
        x.edge(7, 0, 2, 0);
        dueWalk(x, 0, 7, REFUSED);
        dueWalk(x, 7, 0, 1);
        x.cut(0);
        dueWalk(x, 7, 0, REFUSED);
        Sentences.spell(x, 12, 0);
        dueWalk(x, 0, 7, REFUSED);
        Sentences.spell(x, 10, 14, 0, 0);
        dueWalk(x, 0, 0, REFUSED);
    }

    private static void walkWhereNoNodeIs() {
        DOC.due("walk(0, 0) without nodes", spelled(new TrailGraph()).walk(0, 0), REFUSED);
        TrailGraph x = spelled(Sentences.withNodes(8));
        for (int node : Sentences.NEVER_THERE) {
            dueWalk(x, node, node, REFUSED);
            dueWalk(x, node, 0, REFUSED);
            dueWalk(x, 0, node, REFUSED);
        }
        dueWalk(x, 8, 8, REFUSED);
        dueWalk(x, 7, 8, REFUSED);
        dueWalk(x, 8, 7, REFUSED);
        dueWalk(x, 7, 7, 0);
        x.remove(7, false);
        dueWalk(x, 7, 7, REFUSED);
        dueWalk(x, 0, 7, REFUSED);
        dueWalk(x, 7, 0, REFUSED);
    }

    /** With an expression for walks without edges too. */
    private static TrailGraph spelled(TrailGraph x) {
        Sentences.spell(x, 12, 11, 0, 3);
        return x;
    }

    private static void walkWithoutExpression() {
        TrailGraph x = Sentences.withPath(2);
        dueWalk(x, 0, 1, REFUSED);
        dueWalk(x, 0, 0, REFUSED);
        x.token(0);
        dueWalk(x, 0, 1, REFUSED);
        x.token(0);
        x.spell();
        dueWalk(x, 0, 1, REFUSED);
        x.start(0, 0);
        Sentences.where(x, 12, 0);
        dueWalk(x, 0, 0, REFUSED);
        Sentences.spell(x, 0);
        dueWalk(x, 0, 1, 1);
    }

    private static void reachOfNodes() {
        TrailGraph x = Sentences.withPath(8);
        Sentences.spell(x, 12, 0);
        for (int from = 0; from < 8; from++) {
            DOC.due("reach(" + from + ")", x.reach(from), 256 - (1 << from));
        }
        Sentences.spell(x, 12, 3);
        for (int from = 0; from < 8; from++) {
            DOC.due("reach(" + from + ") against", x.reach(from), (2 << from) - 1);
        }
        x.remove(3, true);
        DOC.due("reach(7) against, without 3", x.reach(7), 0b11110000);
        DOC.due("reach(2) against, without 3", x.reach(2), 0b111);
        Sentences.spell(x, 12, 11, 0, 3);
        DOC.due("reach(5) either way", x.reach(5), 0b11110000);
    }

    private static void reachOfNone() {
        TrailGraph x = Sentences.withPath(8);
        Sentences.spell(x, 0);
        DOC.due("reach(7) along", x.reach(7), 0);
        Sentences.spell(x, 3);
        DOC.due("reach(0) against", x.reach(0), 0);
        Sentences.spell(x, 1);
        DOC.due("reach(0) by a type that no edge has", x.reach(0), 0);
    }

    private static void reachWhereNoNodeIs() {
        DOC.due("reach(0) without nodes", spelled(new TrailGraph()).reach(0), 0);
        TrailGraph x = spelled(Sentences.withNodes(8));
        for (int node : Sentences.NEVER_THERE) {
            DOC.due("reach(" + node + ")", x.reach(node), 0);
        }
        DOC.due("reach(8)", x.reach(8), 0);
        DOC.due("reach(7)", x.reach(7), 128);
        x.remove(7, false);
        DOC.due("reach(7) after its removal", x.reach(7), 0);
    }

    private static void reachWithoutExpression() {
        TrailGraph x = Sentences.withPath(2);
        DOC.due("at first", x.reach(0), 0);
        Sentences.spell(x, 10, 0);
        DOC.due("after a list that is none", x.reach(0), 0);
        Sentences.spell(x, 12, 0);
        DOC.due("after one that is", x.reach(0), 3);
    }
}
