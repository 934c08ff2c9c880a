import java.util.Arrays;

/** The boundary cases of parts, tokens and conditions: each sentence of the document has its own test. */
public final class QueryBoundaryTests {
    private static final int REFUSED = Sentences.REFUSED;
    private static final int FULL = Sentences.FULL;

    private static final Sentences DOC = new Sentences();

    public static void main(String[] args) {
        testParts();
        testTokens();
        testConditions();
        DOC.close();
    }

    private static void testParts() {
        DOC.test("terms", "START v, labels: v stands for a node that has all these labels", QueryBoundaryTests::startLabels);
        DOC.test("terms", "it is the present variable then. (START)", QueryBoundaryTests::startIsPresent);
        DOC.test("promise 12", "The query has no parts", QueryBoundaryTests::forgetParts);
        DOC.test("promise 12", "the condition no tokens.", QueryBoundaryTests::forgetCondition);
        DOC.test("promise 12", "Answers how many parts there were.", QueryBoundaryTests::forgetTellsParts);
        DOC.test("promise 13", "Adds a part START: how many there are.", QueryBoundaryTests::startTellsParts);
        DOC.test("promise 13", "REFUSED if v is not 0 .. 3", QueryBoundaryTests::startOfNoVariable);
        DOC.test("promise 13", "or labels not 0 .. 15", QueryBoundaryTests::startWithWrongLabels);
        DOC.test("promise 13", "FULL if there are 6 parts.", QueryBoundaryTests::startWhenFull);
        DOC.test("promise 14", "Adds a part HOP: how many there are.", QueryBoundaryTests::hopTellsParts);
        DOC.test("promise 14", "REFUSED if there is no part", QueryBoundaryTests::hopWithoutPart);
        DOC.test("promise 14", "types is not 1 .. 7", QueryBoundaryTests::hopOfWrongTypes);
        DOC.test("promise 14", "direction not 0 .. 2", QueryBoundaryTests::hopOfWrongDirection);
        DOC.test("promise 14", "low and high not as said (1 <= low <= high <= 3)", QueryBoundaryTests::hopOfWrongLength);
        DOC.test("promise 14", "v not 0 .. 3", QueryBoundaryTests::hopToNoVariable);
        DOC.test("promise 14", "or labels not 0 .. 15", QueryBoundaryTests::hopWithWrongLabels);
        DOC.test("promise 14", "or the highs of all hops would be more than 5 together", QueryBoundaryTests::hopOverFive);
        DOC.test("promise 14", "FULL if there are 6 parts.", QueryBoundaryTests::hopWhenFull);
        DOC.test("promise 27", "start ...: REFUSED is tested before FULL.", QueryBoundaryTests::startRefusedBeforeFull);
        DOC.test("promise 27", "hop: REFUSED is tested before FULL.", QueryBoundaryTests::hopRefusedBeforeFull);
    }

    private static void testTokens() {
        DOC.test("promise 15", "Adds a token to the pending list: how many.", QueryBoundaryTests::tokenTellsHowMany);
        DOC.test("promise 15", "REFUSED, nothing changes, if it is not 0 .. 5, 10 .. 16 or 1000 .. 10999",
            QueryBoundaryTests::tokenOutOfRange);
        DOC.test("promise 15", "or there are 12.", QueryBoundaryTests::tokenWhenFull);
        DOC.test("promise 16", "Takes the pending list (nothing is pending then) as the condition",
            QueryBoundaryTests::whereTakesThePending);
        DOC.test("promise 16", "true (also without tokens).", QueryBoundaryTests::whereWithoutTokens);
        DOC.test("promise 16", "False, and the condition stays, if it is none", QueryBoundaryTests::whereOfNone);
        DOC.test("promise 16", "or names a variable that no part names.", QueryBoundaryTests::whereOfUnnamed);
        DOC.test("promise 27", "where ...: nothing is pending afterwards also if they answer false.",
            QueryBoundaryTests::whereFalseEmptiesPending);
    }

    private static void testConditions() {
        DOC.test("terms", "CONDITIONS are prefix lists of at most 12 tokens", QueryBoundaryTests::twelveTokens);
        DOC.test("terms", "0 .. 3 the property of that variable", QueryBoundaryTests::eachVariable);
        DOC.test("terms", "1000 + n (n 0 .. 9999) the number n", QueryBoundaryTests::leastAndGreatestNumber);
        DOC.test("terms", "10 < A B", QueryBoundaryTests::less);
        DOC.test("terms", "11 = A B", QueryBoundaryTests::equal);
        DOC.test("terms", "UNKNOWN if one of them is NULL", QueryBoundaryTests::unknown);
        DOC.test("terms", "12 NULL? A: true or false", QueryBoundaryTests::isNull);
        DOC.test("terms", "13 SAME v w for two of 0 .. 3: whether they stand for the same node", QueryBoundaryTests::same);
        DOC.test("terms", "14 AND ... of two conditions: false AND any is false", QueryBoundaryTests::and);
        DOC.test("terms", "15 OR of two conditions: true OR any is true", QueryBoundaryTests::or);
        DOC.test("terms", "16 NOT of one ... else UNKNOWN if one is unknown.", QueryBoundaryTests::not);
        DOC.test("terms", "and the condition is TRUE.", QueryBoundaryTests::onlyTrueMatches);
        DOC.test("terms", "Without tokens the condition is true.", QueryBoundaryTests::noTokensIsTrue);
    }

    // ---- parts ----

    private static void startLabels() {
        for (int has = 0; has < 16; has++) {
            TrailGraph x = new TrailGraph();
            x.node(has);
            for (int wanted = 0; wanted < 16; wanted++) {
                x.forget();
                x.start(3, wanted);
                DOC.due("matches() of " + wanted + " where " + has + " are", x.matches(), (has | wanted) == has ? 1 : 0);
            }
        }
        TrailGraph x = Sentences.withNodes(3);
        x.label(1, 1);
        x.label(2, 3);
        x.start(0, 1);
        x.start(0, 2);
        DOC.due("labels of two parts for one variable", x.matches(), 1);
        DOC.due("row(0, 0)", x.row(0, 0), 2);
    }

    private static void startIsPresent() {
        TrailGraph x = Sentences.withPath(2);
        x.start(0, 0);
        x.start(2, 0);
        x.hop(1, 0, 1, 1, 3, 0);
        DOC.due("rows()", x.rows(), 2);
        DOC.due("row(1, 0)", x.row(1, 0), 1);
        DOC.due("row(1, 2)", x.row(1, 2), 0);
        DOC.due("row(1, 3)", x.row(1, 3), 1);
    }

    private static void forgetParts() {
        TrailGraph x = Sentences.withNodes(2);
        x.start(0, 0);
        x.hop(1, 0, 3, 3, 1, 0);
        x.hop(1, 0, 2, 2, 1, 0);
        x.forget();
        DOC.due("matches()", x.matches(), 0);
        DOC.due("rows()", x.rows(), 0);
        DOC.due("hop", x.hop(1, 0, 1, 1, 1, 0), REFUSED);
        DOC.due("where() of a variable that was named", Sentences.where(x, 12, 0), false);
        DOC.due("start(2, 0)", x.start(2, 0), 1);
        DOC.due("row(0, 0)", x.row(0, 0), REFUSED);
        DOC.due("row(0, 1)", x.row(0, 1), REFUSED);
        DOC.due("hop of three, the highs are forgotten too", x.hop(1, 0, 3, 3, 1, 0), 2);
        DOC.due("hop of two", x.hop(1, 0, 2, 2, 1, 0), 3);
        x.forget();
        x.start(0, 0);
        x.start(1, 0);
        x.start(2, 0);
        DOC.due("hop of three behind starts where hops were", x.hop(1, 0, 3, 3, 1, 0), 4);
    }

    private static void forgetCondition() {
        TrailGraph x = Sentences.withNodes(2);
        x.start(0, 0);
        Sentences.where(x, 10, 1000, 1000);
        DOC.due("matches() before", x.matches(), 0);
        x.forget();
        x.start(0, 0);
        DOC.due("matches()", x.matches(), 2);
        Sentences.spell(x, 12, 0);
        x.token(10);
        x.forget();
        DOC.due("the expression is not forgotten: walk(0, 0)", x.walk(0, 0), 0);
        DOC.due("nor is what is pending: token(0)", x.token(0), 2);
        DOC.due("nor is the graph: there()", x.there(), 3);
    }

    private static void forgetTellsParts() {
        TrailGraph x = new TrailGraph();
        for (int parts = 0; parts <= 6; parts++) {
            for (int i = 0; i < parts; i++) {
                x.start(0, 0);
            }
            DOC.due("forget() with " + parts, x.forget(), parts);
            DOC.due("forget() again", x.forget(), 0);
        }
    }

    private static void startTellsParts() {
        TrailGraph x = new TrailGraph();
        for (int part = 0; part < 6; part++) {
            DOC.due("start(" + part % 4 + ", " + 3 * part + ")", x.start(part % 4, 3 * part), part + 1);
        }
    }

    private static void startOfNoVariable() {
        TrailGraph x = Sentences.withNodes(1);
        for (int v : Sentences.NO_VARIABLES) {
            DOC.due("start(" + v + ", 0)", x.start(v, 0), REFUSED);
        }
        DOC.due("start(0, 0)", x.start(0, 0), 1);
        DOC.due("start(3, 0)", x.start(3, 0), 2);
        DOC.due("start(4, 0)", x.start(4, 0), REFUSED);
        DOC.due("forget()", x.forget(), 2);
    }

    private static void startWithWrongLabels() {
        TrailGraph x = Sentences.withNodes(1);
        for (int labels : Sentences.NO_LABELS) {
            DOC.due("start(0, " + labels + ")", x.start(0, labels), REFUSED);
        }
        DOC.due("start(0, 0)", x.start(0, 0), 1);
        DOC.due("start(0, 15)", x.start(0, 15), 2);
        DOC.due("start(0, 16)", x.start(0, 16), REFUSED);
        DOC.due("forget()", x.forget(), 2);
    }

    private static void startWhenFull() {
        TrailGraph x = Sentences.withNodes(2);
        for (int i = 0; i < 5; i++) {
            x.start(0, 0);
        }
        DOC.due("the 6th", x.start(0, 0), 6);
        DOC.due("with 6", x.start(1, 0), FULL);
        DOC.due("with 6, again", x.start(0, 15), FULL);
        DOC.due("variable 1 is not named", x.row(0, 1), REFUSED);
        DOC.due("matches()", x.matches(), 2);
        DOC.due("forget()", x.forget(), 6);
    }

    private static void hopTellsParts() {
        TrailGraph x = new TrailGraph();
        x.start(0, 0);
        DOC.due("hop(1, 0, 1, 1, 0, 0)", x.hop(1, 0, 1, 1, 0, 0), 2);
        DOC.due("hop(7, 2, 1, 1, 3, 15)", x.hop(7, 2, 1, 1, 3, 15), 3);
        x.start(1, 0);
        DOC.due("hop(4, 1, 1, 3, 1, 8)", x.hop(4, 1, 1, 3, 1, 8), 5);
        DOC.due("forget()", x.forget(), 5);
    }

    private static void hopWithoutPart() {
        TrailGraph x = Sentences.withLoops(1);
        DOC.due("at first", x.hop(1, 0, 1, 1, 0, 0), REFUSED);
        DOC.due("forget()", x.forget(), 0);
        x.start(0, 0);
        DOC.due("with one", x.hop(1, 0, 1, 1, 0, 0), 2);
        x.forget();
        DOC.due("after forget()", x.hop(1, 0, 1, 1, 0, 0), REFUSED);
        DOC.due("forget()", x.forget(), 0);
    }

    private static void hopOfWrongTypes() {
        TrailGraph x = Sentences.withLoops(1);
        x.start(0, 0);
        for (int types : new int[] {-1, -7, 0, 8, 9, 15, 16, Integer.MIN_VALUE, Integer.MAX_VALUE}) {
            DOC.due("types " + types, x.hop(types, 0, 1, 1, 0, 0), REFUSED);
        }
        DOC.due("types 1", x.hop(1, 0, 1, 1, 0, 0), 2);
        DOC.due("types 7", x.hop(7, 0, 1, 1, 0, 0), 3);
    }

    private static void hopOfWrongDirection() {
        TrailGraph x = Sentences.withLoops(1);
        x.start(0, 0);
        for (int direction : new int[] {-1, -2, 3, 4, Integer.MIN_VALUE, Integer.MAX_VALUE}) {
            DOC.due("direction " + direction, x.hop(1, direction, 1, 1, 0, 0), REFUSED);
        }
        for (int direction = 0; direction <= 2; direction++) {
            DOC.due("direction " + direction, x.hop(1, direction, 1, 1, 0, 0), 2 + direction);
        }
    }

    private static void hopOfWrongLength() {
        int[] lengths = {Integer.MIN_VALUE, -2, -1, 0, 1, 2, 3, 4, 5, Integer.MAX_VALUE - 2, Integer.MAX_VALUE};
        for (int low : lengths) {
            for (int high : lengths) {
                TrailGraph x = new TrailGraph();
                x.start(0, 0);
                boolean asSaid = 1 <= low && low <= high && high <= 3;
                DOC.due("low " + low + ", high " + high, x.hop(1, 0, low, high, 0, 0), asSaid ? 2 : REFUSED);
                DOC.due("forget()", x.forget(), asSaid ? 2 : 1);
            }
        }
    }

    private static void hopToNoVariable() {
        TrailGraph x = Sentences.withLoops(1);
        x.start(0, 0);
        for (int v : Sentences.NO_VARIABLES) {
            DOC.due("variable " + v, x.hop(1, 0, 1, 1, v, 0), REFUSED);
        }
        DOC.due("variable 0", x.hop(1, 0, 1, 1, 0, 0), 2);
        DOC.due("variable 3", x.hop(1, 0, 1, 1, 3, 0), 3);
    }

    private static void hopWithWrongLabels() {
        TrailGraph x = Sentences.withLoops(1);
        x.start(0, 0);
        for (int labels : Sentences.NO_LABELS) {
            DOC.due("labels " + labels, x.hop(1, 0, 1, 1, 0, labels), REFUSED);
        }
        DOC.due("labels 0", x.hop(1, 0, 1, 1, 0, 0), 2);
        DOC.due("labels 15", x.hop(1, 0, 1, 1, 0, 15), 3);
    }

    /** All ways to three highs: the third goes only where the sum is 5 at most, and a refused one does not count. */
    private static void hopOverFive() {
        for (int one = 1; one <= 3; one++) {
            for (int two = 1; two <= 3; two++) {
                TrailGraph x = new TrailGraph();
                x.start(0, 0);
                x.hop(1, 0, 1, one, 0, 0);
                x.start(1, 0);
                boolean fits = one + two <= 5;
                DOC.due("highs " + one + " and " + two, x.hop(1, 0, two, two, 0, 0), fits ? 4 : REFUSED);
                int sum = fits ? one + two : one;
                for (int three = 3; three >= 1; three--) {
                    int want = sum + three <= 5 ? fits ? 5 : 4 : REFUSED;
                    DOC.due("highs " + sum + " and " + three, x.hop(1, 0, 1, three, 0, 0), want);
                    if (want != REFUSED) {
                        break;
                    }
                }
            }
        }
        TrailGraph x = new TrailGraph();
        x.start(0, 0);
        for (int i = 0; i < 5; i++) {
            DOC.due("five hops of one", x.hop(1, 0, 1, 1, 0, 0), i + 2);
        }
    }

    private static void hopWhenFull() {
        TrailGraph x = Sentences.withNodes(2);
        for (int i = 0; i < 4; i++) {
            x.start(0, 0);
        }
        DOC.due("the 5th", x.hop(1, 0, 1, 1, 0, 0), 5);
        DOC.due("the 6th", x.hop(1, 0, 1, 1, 0, 0), 6);
        DOC.due("with 6", x.hop(1, 0, 1, 1, 1, 0), FULL);
        DOC.due("with 6, up to five together", x.hop(1, 0, 1, 3, 1, 0), FULL);
        DOC.due("with 6, again", x.hop(1, 0, 1, 1, 1, 0), FULL);
        DOC.due("forget()", x.forget(), 6);
        for (int i = 0; i < 6; i++) {
            x.start(0, 0);
        }
        x.hop(1, 0, 1, 1, 1, 0);
        DOC.due("a hop that was not added asks nothing", x.matches(), 2);
        DOC.due("and names nothing", x.row(0, 1), REFUSED);
    }

    private static void startRefusedBeforeFull() {
        TrailGraph x = new TrailGraph();
        for (int i = 0; i < 6; i++) {
            x.start(0, 0);
        }
        for (int v : Sentences.NO_VARIABLES) {
            DOC.due("start(" + v + ", 0) with 6", x.start(v, 0), REFUSED);
        }
        for (int labels : Sentences.NO_LABELS) {
            DOC.due("start(0, " + labels + ") with 6", x.start(0, labels), REFUSED);
        }
        DOC.due("start(0, 0) with 6", x.start(0, 0), FULL);
    }

    private static void hopRefusedBeforeFull() {
        TrailGraph x = new TrailGraph();
        x.start(0, 0);
        x.hop(1, 0, 1, 3, 0, 0);
        for (int i = 0; i < 4; i++) {
            x.start(0, 0);
        }
        int[][] wrong = {
            {0, 0, 1, 1, 0, 0}, {8, 0, 1, 1, 0, 0}, {1, -1, 1, 1, 0, 0}, {1, 3, 1, 1, 0, 0}, {1, 0, 0, 1, 0, 0},
            {1, 0, 2, 1, 0, 0}, {1, 0, 1, 4, 0, 0}, {1, 0, 1, 1, -1, 0}, {1, 0, 1, 1, 4, 0}, {1, 0, 1, 1, 0, -1},
            {1, 0, 1, 1, 0, 16}, {1, 0, 1, 3, 0, 0},
        };
        for (int[] w : wrong) {
            DOC.due("hop" + Arrays.toString(w) + " with 6", x.hop(w[0], w[1], w[2], w[3], w[4], w[5]), REFUSED);
        }
        DOC.due("hop(1, 0, 1, 2, 0, 0) with 6", x.hop(1, 0, 1, 2, 0, 0), FULL);
    }

    // ---- tokens ----

    private static void tokenTellsHowMany() {
        TrailGraph x = new TrailGraph();
        int[] list = {0, 1, 2, 3, 4, 5, 10, 16, 1000, 10999, 13, 5555};
        for (int i = 0; i < 12; i++) {
            DOC.due("token(" + list[i] + ")", x.token(list[i]), i + 1);
        }
        for (int token : new int[] {11, 12, 14, 15, 1001, 10998}) {
            x.where();
            DOC.due("token(" + token + ")", x.token(token), 1);
        }
    }

    private static void tokenOutOfRange() {
        int[] wrong = {Integer.MIN_VALUE, -1000, -1, 6, 7, 8, 9, 17, 18, 100, 998, 999, 11000, 11001, Integer.MAX_VALUE};
        TrailGraph x = Sentences.withNodes(2);
        for (int token : wrong) {
            DOC.due("token(" + token + ") at first", x.token(token), REFUSED);
        }
        x.set(1, 1);
        x.start(0, 0);
        int[] right = {11, 0, 1001};
        for (int i = 0; i < 3; i++) {
            DOC.due("token(" + right[i] + ")", x.token(right[i]), i + 1);
            for (int token : wrong) {
                DOC.due("token(" + token + ")", x.token(token), REFUSED);
            }
        }
        DOC.due("where() of the right ones", x.where(), true);
        DOC.due("matches()", x.matches(), 1);
    }

    private static void tokenWhenFull() {
        TrailGraph x = Sentences.withNodes(1);
        x.start(0, 0);
        Sentences.tokens(x, Sentences.repeated(16, 10));
        DOC.due("the 11th", x.token(12), 11);
        DOC.due("the 12th", x.token(0), 12);
        DOC.due("with 12", x.token(0), REFUSED);
        DOC.due("with 12, again", x.token(1000), REFUSED);
        DOC.due("with 12, a wrong one", x.token(6), REFUSED);
        DOC.due("where() of the twelve", x.where(), true);
        DOC.due("the first again", x.token(0), 1);
    }

    private static void whereTakesThePending() {
        TrailGraph x = Sentences.withNodes(3);
        x.set(1, 5);
        x.start(0, 0);
        DOC.due("where()", Sentences.where(x, 12, 0), true);
        DOC.due("matches()", x.matches(), 2);
        DOC.due("nothing is pending", x.token(11), 1);
        Sentences.tokens(x, 0, 1005);
        DOC.due("the condition is the old one before where()", x.matches(), 2);
        DOC.due("where()", x.where(), true);
        DOC.due("the new one takes the place of the old one", x.matches(), 1);
        DOC.due("where() of nothing pending", x.where(), true);
        DOC.due("matches()", x.matches(), 3);
    }

    private static void whereWithoutTokens() {
        TrailGraph x = new TrailGraph();
        DOC.due("without parts", x.where(), true);
        DOC.due("twice", x.where(), true);
        x.node(0);
        x.start(0, 0);
        DOC.due("with a part", x.where(), true);
        DOC.due("matches()", x.matches(), 1);
        Sentences.where(x, 12, 1000);
        DOC.due("matches() under a condition", x.matches(), 0);
        DOC.due("after a condition", x.where(), true);
        DOC.due("matches()", x.matches(), 1);
    }

    private static void whereOfNone() {
        int[][] none = {
            {0}, {3}, {4}, {5}, {1000}, {10999},
            {10}, {11}, {12}, {13}, {14}, {15}, {16},
            {10, 0}, {11, 0}, {13, 0}, {10, 0, 0, 0}, {11, 0, 0, 1000}, {12, 0, 0}, {13, 0, 0, 0},
            {10, 4, 0}, {10, 0, 5}, {11, 5, 0}, {11, 0, 4}, {12, 4}, {12, 5}, {13, 4, 0}, {13, 0, 5},
            {13, 1000, 0}, {13, 0, 1000}, {13, 1000, 1000},
            {14, 12, 0}, {15, 12, 0}, {14, 12, 0, 12, 0, 12, 0}, {15, 12, 0, 12, 0, 12, 0}, {16, 12, 0, 12, 0},
            {14, 0, 0}, {15, 1000, 1000}, {16, 0}, {16, 1000}, {14, 0, 12, 0}, {14, 12, 0, 0}, {15, 12, 0, 1001},
            {10, 12, 0, 0}, {10, 0, 12, 0}, {11, 16, 12, 0, 0}, {12, 12, 0}, {13, 13, 0, 0, 0}, {12, 16},
            {0, 0, 0}, {4, 0, 0}, {1000, 0, 0}, {16, 0, 0, 0}, {14, 5, 0, 0, 12, 0},
            {12, 0, 16}, {12, 0, 14, 12, 0}, {12, 0, 12, 0}, {12, 0, 12, 0, 14}, {0, 0, 10}, {0, 12},
            Sentences.repeated(16, 12), Sentences.repeated(14, 12), Sentences.repeated(0, 12), Sentences.repeated(16, 11, 0),
            {14, 14, 14, 14, 12, 0, 12, 0, 12, 0, 12, 0}, {14, 12, 0, 14, 12, 0, 12, 0, 12, 0, 12, 0},
        };
        TrailGraph x = Sentences.withNodes(4);
        x.set(1, 5);
        x.start(0, 0);
        Sentences.where(x, 11, 0, 1005);
        for (int[] list : none) {
            DOC.due("where() of " + Arrays.toString(list), Sentences.where(x, list), false);
            DOC.due("matches() under the old condition", x.matches(), 1);
            DOC.due("row(0, 0) under the old condition", x.row(0, 0), 1);
        }
    }

    private static void whereOfUnnamed() {
        TrailGraph x = Sentences.withNodes(3);
        DOC.due("where() of 12 0 without parts", Sentences.where(x, 12, 0), false);
        DOC.due("where() of 13 0 0 without parts", Sentences.where(x, 13, 0, 0), false);
        DOC.due("where() of 11 1000 1000 without parts", Sentences.where(x, 11, 1000, 1000), true);
        x.start(1, 0);
        x.hop(1, 0, 1, 1, 2, 0);
        x.forget();
        DOC.due("where() of 12 1 when its part is forgotten", Sentences.where(x, 12, 1), false);
        x.start(1, 0);
        Sentences.where(x, 13, 1, 1);
        int[][] unnamed = {
            {12, 0}, {12, 2}, {12, 3}, {10, 0, 1}, {10, 1, 0}, {11, 2, 1}, {11, 1, 2}, {10, 3, 1000}, {11, 1000, 3},
            {13, 0, 1}, {13, 1, 0}, {13, 3, 3}, {16, 12, 2}, {14, 12, 1, 12, 0}, {14, 12, 0, 12, 1},
            {15, 13, 1, 1, 12, 3}, {15, 12, 3, 13, 1, 1},
        };
        for (int[] list : unnamed) {
            DOC.due("where() of " + Arrays.toString(list), Sentences.where(x, list), false);
            DOC.due("matches() under the old condition", x.matches(), 3);
        }
        DOC.due("where() of 12 1", Sentences.where(x, 12, 1), true);
        x.hop(1, 0, 1, 1, 3, 0);
        DOC.due("where() of 12 3 when a hop names it", Sentences.where(x, 12, 3), true);
        DOC.due("where() of 12 2", Sentences.where(x, 12, 2), false);
    }

    private static void whereFalseEmptiesPending() {
        TrailGraph x = Sentences.withNodes(1);
        x.start(0, 0);
        int[][] lists = {{0}, {14, 12, 0}, {12, 3}, {1000}, Sentences.repeated(0, 12)};
        for (int[] list : lists) {
            DOC.due("where() of " + Arrays.toString(list), Sentences.where(x, list), false);
            DOC.due("token(12)", x.token(12), 1);
            DOC.due("token(0)", x.token(0), 2);
            DOC.due("where() of those", x.where(), true);
        }
    }

    // ---- conditions ----

    /** The matches of a new object whose nodes 0, 1, 2 ... are variables 0, 1, 2 ... alone. */
    private static int holds(int[] condition, Integer... values) {
        TrailGraph x = new TrailGraph();
        for (int v = 0; v < values.length; v++) {
            x.node(1 << v);
            if (values[v] != null) {
                x.set(v, values[v]);
            }
            x.start(v, 1 << v);
        }
        return Sentences.where(x, condition) ? x.matches() : REFUSED;
    }

    private static void dueHolds(boolean want, int[] condition, Integer... values) {
        String call = "matches() where " + Arrays.toString(condition) + " for " + Arrays.toString(values);
        DOC.due(call, holds(condition, values), want ? 1 : 0);
    }

    private static int[] list(int... tokens) {
        return tokens;
    }

    private static void twelveTokens() {
        dueHolds(true, Sentences.repeated(16, 10, 12, 0), new Integer[] {null});
        dueHolds(false, Sentences.repeated(16, 9, 12, 0), new Integer[] {null});
        dueHolds(true, list(14, 12, 0, 14, 12, 0, 15, 12, 0, 16, 12, 0), new Integer[] {null});
        dueHolds(false, list(14, 14, 14, 12, 0, 12, 0, 12, 0, 16, 12, 0), new Integer[] {null});
        TrailGraph x = Sentences.withNodes(1);
        x.start(0, 0);
        Sentences.tokens(x, Sentences.repeated(16, 11));
        x.token(12);
        DOC.due("a 13th token", x.token(0), REFUSED);
        DOC.due("where() of the twelve without it", x.where(), false);
    }

    private static void eachVariable() {
        for (int v = 0; v < 4; v++) {
            Integer[] values = {1, 2, 3, 4};
            for (int value = 1; value <= 4; value++) {
                dueHolds(value == v + 1, list(11, v, 1000 + value), values);
            }
            values[v] = null;
            for (int other = 0; other < 4; other++) {
                dueHolds(other == v, list(12, other), values);
            }
        }
    }

    private static void leastAndGreatestNumber() {
        dueHolds(true, list(11, 0, 1000), 0);
        dueHolds(false, list(11, 0, 1000), 1);
        dueHolds(false, list(11, 0, 1000), 1000);
        dueHolds(false, list(10, 0, 1000), 0);
        dueHolds(true, list(10, 0, 1000), -1);
        dueHolds(true, list(11, 0, 10999), 9999);
        dueHolds(false, list(11, 0, 10999), 10999);
        dueHolds(true, list(10, 0, 10999), 9998);
        dueHolds(false, list(10, 0, 10999), 9999);
        dueHolds(true, list(10, 10999, 0), 10000);
        dueHolds(true, list(10, 10998, 10999), 0);
        dueHolds(true, list(11, 1003, 1003), 0);
    }

    private static void less() {
        int[] values = {Integer.MIN_VALUE, -1, 0, 1, 9999, Integer.MAX_VALUE};
        for (int a : values) {
            for (int b : values) {
                dueHolds(a < b, list(10, 0, 1), a, b);
                dueHolds(!(a < b), list(16, 10, 0, 1), a, b);
            }
        }
    }

    private static void equal() {
        int[] values = {Integer.MIN_VALUE, -1, 0, 1, 9999, Integer.MAX_VALUE};
        for (int a : values) {
            for (int b : values) {
                dueHolds(a == b, list(11, 0, 1), a, b);
                dueHolds(a != b, list(16, 11, 0, 1), a, b);
            }
        }
    }

    /** Unknown is neither true nor false, so neither the comparison nor its NOT holds. */
    private static void unknown() {
        Integer[][] pairs = {{null, 1}, {1, null}, {null, null}, {null, Integer.MAX_VALUE}, {Integer.MIN_VALUE, null}};
        for (Integer[] pair : pairs) {
            for (int comparison = 10; comparison <= 11; comparison++) {
                dueHolds(false, list(comparison, 0, 1), pair);
                dueHolds(false, list(16, comparison, 0, 1), pair);
                dueHolds(false, list(16, 16, comparison, 0, 1), pair);
            }
        }
        for (int comparison = 10; comparison <= 11; comparison++) {
            dueHolds(false, list(comparison, 0, 1001), new Integer[] {null});
            dueHolds(false, list(16, comparison, 0, 1001), new Integer[] {null});
            dueHolds(false, list(comparison, 1001, 0), new Integer[] {null});
            dueHolds(false, list(16, comparison, 1001, 0), new Integer[] {null});
            dueHolds(false, list(comparison, 0, 0), new Integer[] {null});
            dueHolds(false, list(16, comparison, 0, 0), new Integer[] {null});
        }
    }

    private static void isNull() {
        dueHolds(true, list(12, 0), new Integer[] {null});
        dueHolds(false, list(16, 12, 0), new Integer[] {null});
        for (int value : new int[] {0, -1, Integer.MIN_VALUE, Integer.MAX_VALUE}) {
            dueHolds(false, list(12, 0), value);
            dueHolds(true, list(16, 12, 0), value);
        }
        dueHolds(false, list(12, 1000), new Integer[] {null});
        dueHolds(true, list(16, 12, 10999), new Integer[] {null});
    }

    /** Properties don't count for SAME: all are NULL, or all alike. */
    private static void same() {
        TrailGraph x = Sentences.withNodes(8);
        for (int v = 0; v < 4; v++) {
            x.start(v, v == 0 || v == 3 ? 0 : 1);
        }
        x.label(7, 1);
        DOC.due("SAME 0 3", Sentences.where(x, 13, 0, 3) ? x.matches() : REFUSED, 8);
        DOC.due("row(7, 0)", x.row(7, 0), 7);
        DOC.due("row(7, 3)", x.row(7, 3), 7);
        DOC.due("NOT SAME 3 0", Sentences.where(x, 16, 13, 3, 0) ? x.matches() : REFUSED, 56);
        DOC.due("SAME 1 2", Sentences.where(x, 13, 1, 2) ? x.matches() : REFUSED, 64);
        DOC.due("SAME 3 3", Sentences.where(x, 13, 3, 3) ? x.matches() : REFUSED, 64);
        DOC.due("NOT SAME 0 0", Sentences.where(x, 16, 13, 0, 0) ? x.matches() : REFUSED, 0);
        for (int node = 0; node < 8; node++) {
            x.set(node, 5);
        }
        DOC.due("SAME 0 3, all alike", Sentences.where(x, 13, 0, 3) ? x.matches() : REFUSED, 8);
    }

    /** False, unknown and true, of a node whose property is NULL. */
    private static final int[][] TRUTHS = {{11, 1000, 1001}, {11, 0, 1000}, {11, 1000, 1000}};

    private static int[] joined(int operator, int one, int other, boolean negated) {
        int[] list = new int[negated ? 8 : 7];
        int at = 0;
        if (negated) {
            list[at++] = 16;
        }
        list[at] = operator;
        System.arraycopy(TRUTHS[one], 0, list, at + 1, 3);
        System.arraycopy(TRUTHS[other], 0, list, at + 4, 3);
        return list;
    }

    /** The table has F, U and T for each pair of these, in this order. */
    private static void dueTable(int operator, String table) {
        for (int one = 0; one < 3; one++) {
            for (int other = 0; other < 3; other++) {
                char want = table.charAt(3 * one + other);
                dueHolds(want == 'T', joined(operator, one, other, false), new Integer[] {null});
                dueHolds(want == 'F', joined(operator, one, other, true), new Integer[] {null});
            }
        }
    }

    private static void and() {
        dueTable(14, "FFF" + "FUU" + "FUT");
    }

    private static void or() {
        dueTable(15, "FUT" + "UUT" + "TTT");
    }

    private static void not() {
        for (int truth = 0; truth < 3; truth++) {
            int[] t = TRUTHS[truth];
            dueHolds(truth == 0, list(16, t[0], t[1], t[2]), new Integer[] {null});
            dueHolds(truth == 2, list(16, 16, t[0], t[1], t[2]), new Integer[] {null});
        }
    }

    private static void onlyTrueMatches() {
        for (int truth = 0; truth < 3; truth++) {
            dueHolds(truth == 2, TRUTHS[truth], new Integer[] {null});
        }
        TrailGraph x = Sentences.withNodes(8);
        x.set(3, 2);
        x.set(6, 0);
        x.start(0, 0);
        Sentences.where(x, 10, 0, 1002);
        DOC.due("matches(), true for one, false for one, unknown for six", x.matches(), 1);
        DOC.due("row(0, 0)", x.row(0, 0), 6);
    }

    private static void noTokensIsTrue() {
        TrailGraph x = Sentences.withNodes(3);
        x.start(0, 0);
        DOC.due("matches() at first", x.matches(), 3);
        Sentences.where(x, 12, 1000);
        x.where();
        DOC.due("matches() after where() without tokens", x.matches(), 3);
        Sentences.where(x, 12, 1000);
        x.forget();
        x.start(0, 0);
        DOC.due("matches() after forget()", x.matches(), 3);
    }
}
