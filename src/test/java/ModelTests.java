import java.util.ArrayList;
import java.util.List;

/** Long runs of mixed calls, made by a fixed rule, with each answer compared with the model's. */
public final class ModelTests {
    private static final int RUNS = 1500;
    private static final int CALLS = 500;
    private static final int[] ODD_NUMBERS = {-1, 8, 12, 16, 31, 32, 999, 11000, Integer.MIN_VALUE, Integer.MAX_VALUE};

    private final Checks checks = new Checks();
    private TrailGraph x;
    private Model model;
    private int calls;
    private long seed;
    private int oddity;
    private int grown;
    private final List<Integer> named = new ArrayList<>();

    public static void main(String[] args) {
        ModelTests tests = new ModelTests();
        for (int run = 0; run < RUNS && tests.checks.wrong() < 20; run++) {
            tests.run(run);
        }
        tests.checks.close();
    }

    // ---- numbers by a fixed rule ----

    private int below(int bound) {
        seed = seed * 6364136223846793005L + 1442695040888963407L;
        return (int) ((seed >>> 33) % bound);
    }

    private boolean oneIn(int n) {
        return below(n) == 0;
    }

    /** A number of 0 .. count - 1, and now and then one beyond. */
    private int number(int count) {
        if (oneIn(oddity)) {
            return oneIn(2) ? count : ODD_NUMBERS[below(ODD_NUMBERS.length)];
        }
        return below(count);
    }

    private int fewLabels() {
        return oneIn(3) ? number(16) : number(2) << below(4);
    }

    // ---- one run ----

    private void run(int number) {
        checks.about("run " + number);
        seed = number * 7919L + 17;
        x = new TrailGraph();
        model = new Model();
        calls = 0;
        oddity = 4 + below(40);
        grown = 0;
        named.clear();
        int nodes = 1 + below(8);
        int edges = below(13);
        while (calls < nodes + edges) {
            if (grown < nodes) {
                growNode();
            } else {
                growEdge(nodes);
            }
        }
        while (calls < CALLS - 30) {
            switch (below(12)) {
                case 0, 1 -> changeGraph();
                case 2 -> changeLevel();
                case 3 -> makeQuery();
                case 4 -> addPart();
                case 5 -> makeCondition();
                case 6 -> makeExpression();
                case 7, 8, 9 -> askMatches();
                case 10 -> askWalks();
                default -> askGraph();
            }
        }
    }

    private void due(String call, long got, long want) {
        calls++;
        checks.due("call " + calls + ", " + call, got, want);
    }

    private void due(String call, boolean got, boolean want) {
        due(call, got ? 1L : 0L, want ? 1L : 0L);
    }

    private void growNode() {
        int labels = below(16);
        due("node(" + labels + ")", x.node(labels), model.node(labels));
        grown++;
    }

    private void growEdge(int nodes) {
        // Few nodes for the edges to stand on make many trails between them.
        int from = below(1 + below(nodes));
        int to = below(1 + below(nodes));
        int type = below(3);
        int weight = below(101);
        due("edge(" + from + ", " + to + ", " + type + ", " + weight + ")",
            x.edge(from, to, type, weight), model.edge(from, to, type, weight));
    }

    private void changeGraph() {
        int node = number(8);
        int value = oneIn(4) ? ODD_NUMBERS[below(ODD_NUMBERS.length)] : below(5) - 1;
        int labels = number(16);
        switch (below(12)) {
            case 0 -> due("node(" + labels + ")", x.node(labels), model.node(labels));
            case 1, 2 -> due("set(" + node + ", " + value + ")", x.set(node, value), model.set(node, value));
            case 3 -> due("clear(" + node + ")", x.clear(node), model.clear(node));
            case 4 -> due("label(" + node + ", " + labels + ")", x.label(node, labels), model.label(node, labels));
            case 5 -> {
                int edge = number(12);
                due("cut(" + edge + ")", x.cut(edge), model.cut(edge));
            }
            case 6 -> {
                boolean detach = oneIn(3);
                due("remove(" + node + ", " + detach + ")", x.remove(node, detach), model.remove(node, detach));
            }
            default -> {
                int to = number(8);
                int type = number(3);
                int weight = number(101);
                due("edge(" + node + ", " + to + ", " + type + ", " + weight + ")",
                    x.edge(node, to, type, weight), model.edge(node, to, type, weight));
            }
        }
    }

    private void changeLevel() {
        switch (below(4)) {
            case 0, 1 -> due("begin()", x.begin(), model.begin());
            case 2 -> due("commit()", x.commit(), model.commit());
            default -> due("rollback()", x.rollback(), model.rollback());
        }
        due("there()", x.there(), model.there());
    }

    private void forget() {
        due("forget()", x.forget(), model.forget());
        named.clear();
    }

    private void makeQuery() {
        forget();
        for (int parts = 1 + below(5); parts > 0; parts--) {
            addPart();
        }
    }

    private void addPart() {
        int v = number(4);
        named.add(v);
        int labels = oneIn(2) ? 0 : fewLabels();
        if (oneIn(3)) {
            due("start(" + v + ", " + labels + ")", x.start(v, labels), model.start(v, labels));
        } else {
            int types = oneIn(oddity) ? number(9) : 1 + below(7);
            int direction = number(3);
            int low = oneIn(oddity) ? number(5) : oneIn(4) ? 2 + below(2) : 1;
            int high = oneIn(oddity) ? number(5) : Math.min(3, low + below(2));
            due("hop(" + types + ", " + direction + ", " + low + ", " + high + ", " + v + ", " + labels + ")",
                x.hop(types, direction, low, high, v, labels), model.hop(types, direction, low, high, v, labels));
        }
    }

    // ---- lists of tokens ----

    private int operand(boolean numbersToo) {
        if (numbersToo && oneIn(3)) {
            return 1000 + below(4);
        }
        return named.isEmpty() || oneIn(oddity) ? below(4) : named.get(below(named.size()));
    }

    private void addCondition(List<Integer> list, int depth) {
        int token = depth > 0 ? 10 + below(7) : 10 + below(4);
        list.add(token);
        if (token == 14 || token == 15) {
            addCondition(list, depth - 1);
            addCondition(list, depth - 1);
        } else if (token == 16) {
            addCondition(list, depth - 1);
        } else {
            list.add(operand(token != 13));
            if (token != 12) {
                list.add(operand(token != 13));
            }
        }
    }

    private void addExpression(List<Integer> list, int depth) {
        int token = depth > 0 && !oneIn(5) ? 10 + below(5) : below(6);
        list.add(token);
        if (token >= 10) {
            addExpression(list, depth - 1);
            if (token <= 11) {
                addExpression(list, depth - 1);
            }
        }
    }

    private void addTokens(List<Integer> list) {
        if (oneIn(6) && !list.isEmpty()) {
            list.remove(below(list.size()));
        }
        if (oneIn(8) && !list.isEmpty()) {
            list.set(below(list.size()), oneIn(2) ? number(18) : 1000 + number(10000));
        }
        for (int token : list) {
            due("token(" + token + ")", x.token(token), model.token(token));
        }
    }

    private void makeCondition() {
        List<Integer> list = new ArrayList<>();
        if (!oneIn(8)) {
            addCondition(list, below(3));
        }
        addTokens(list);
        if (oneIn(12)) {
            due("spell()", x.spell(), model.spell());
        } else {
            due("where()", x.where(), model.where());
        }
    }

    private void makeExpression() {
        List<Integer> list = new ArrayList<>();
        if (!oneIn(12)) {
            addExpression(list, below(5));
        }
        addTokens(list);
        if (oneIn(12)) {
            due("where()", x.where(), model.where());
        } else {
            due("spell()", x.spell(), model.spell());
        }
    }

    // ---- questions ----

    private void askMatches() {
        if (model.isBeyondReach()) {
            forget();
        }
        int rows = model.rows();
        due("matches()", x.matches(), model.matches());
        due("rows()", x.rows(), rows);
        due("least()", x.least(), model.least());
        int v = number(4);
        due("total(" + v + ")", x.total(v), model.total(v));
        for (int i = 0; i < 4; i++) {
            int k = number(Math.max(1, rows));
            due("row(" + k + ", " + i + ")", x.row(k, i), model.row(k, i));
        }
        due("row(0, " + v + ")", x.row(0, v), model.row(0, v));
    }

    private void askWalks() {
        int from = number(8);
        int to = number(8);
        due("walk(" + from + ", " + to + ")", x.walk(from, to), model.walk(from, to));
        due("walk(" + from + ", " + from + ")", x.walk(from, from), model.walk(from, from));
        due("walk(" + to + ", " + from + ")", x.walk(to, from), model.walk(to, from));
        due("reach(" + from + ")", x.reach(from), model.reach(from));
    }

    private void askGraph() {
        int node = number(8);
        due("property(" + node + ")", x.property(node), model.property(node));
        due("there()", x.there(), model.there());
    }
}
