import java.util.ArrayList;
import java.util.Arrays;
import java.util.HashSet;
import java.util.List;
import java.util.Set;
import java.util.TreeMap;

/**
 * A second program for the same document, made to be plain and unlike the first: objects, recursion
 * over the parts, truth as Boolean or null, and walks by a machine with states.
 */
final class Model {
    private static final int REFUSED = -1;
    private static final int FULL = -2;
    private static final int MANY = -3;
    private static final long NULL = 9000000000000000000L;
    private static final int MOST_VISITS = 60000;

    /** Nodes are {labels, property or null}, edges {from, to, type, weight}. */
    private Integer[][] nodes = new Integer[8][];
    private int[][] edges = new int[12][];
    private final List<Integer[][]> savedNodes = new ArrayList<>();
    private final List<int[][]> savedEdges = new ArrayList<>();
    /** Starts are {v, labels}, hops {v, labels, types, direction, low, high}. */
    private final List<int[]> parts = new ArrayList<>();
    private final List<Integer> pending = new ArrayList<>();
    private List<Integer> condition = new ArrayList<>();
    private List<Integer> expression = new ArrayList<>();

    int node(int labels) {
        if (labels < 0 || labels > 15) {
            return REFUSED;
        }
        int free = Arrays.asList(nodes).indexOf(null);
        if (free < 0) {
            return FULL;
        }
        nodes[free] = new Integer[] {labels, null};
        return free;
    }

    private boolean has(int node) {
        return node >= 0 && node < 8 && nodes[node] != null;
    }

    boolean set(int node, int value) {
        if (has(node)) {
            nodes[node] = new Integer[] {nodes[node][0], value};
        }
        return has(node);
    }

    boolean clear(int node) {
        if (has(node)) {
            nodes[node] = new Integer[] {nodes[node][0], null};
        }
        return has(node);
    }

    int label(int node, int labels) {
        if (!has(node) || labels < 0 || labels > 15) {
            return REFUSED;
        }
        int old = nodes[node][0];
        nodes[node] = new Integer[] {labels, nodes[node][1]};
        return old;
    }

    int edge(int from, int to, int type, int weight) {
        if (!has(from) || !has(to) || type < 0 || type > 2 || weight < 0 || weight > 100) {
            return REFUSED;
        }
        int free = Arrays.asList(edges).indexOf(null);
        if (free < 0) {
            return FULL;
        }
        edges[free] = new int[] {from, to, type, weight};
        return free;
    }

    boolean cut(int edge) {
        if (edge < 0 || edge >= 12 || edges[edge] == null) {
            return false;
        }
        edges[edge] = null;
        return true;
    }

    int remove(int node, boolean detach) {
        if (!has(node)) {
            return REFUSED;
        }
        List<Integer> gone = new ArrayList<>();
        for (int e = 0; e < 12; e++) {
            if (edges[e] != null && (edges[e][0] == node || edges[e][1] == node)) {
                gone.add(e);
            }
        }
        if (!detach && !gone.isEmpty()) {
            return REFUSED;
        }
        for (int e : gone) {
            edges[e] = null;
        }
        nodes[node] = null;
        return gone.size();
    }

    int begin() {
        if (savedNodes.size() == 4) {
            return FULL;
        }
        // The rows of both arrays are never changed, only replaced.
        savedNodes.add(nodes.clone());
        savedEdges.add(edges.clone());
        return savedNodes.size();
    }

    int commit() {
        if (savedNodes.isEmpty()) {
            return REFUSED;
        }
        savedNodes.remove(savedNodes.size() - 1);
        savedEdges.remove(savedEdges.size() - 1);
        return savedNodes.size();
    }

    int rollback() {
        if (savedNodes.isEmpty()) {
            return REFUSED;
        }
        nodes = savedNodes.get(savedNodes.size() - 1);
        edges = savedEdges.get(savedEdges.size() - 1);
        return commit();
    }

    int forget() {
        int count = parts.size();
        parts.clear();
        condition = new ArrayList<>();
        return count;
    }

    int start(int v, int labels) {
        if (v < 0 || v > 3 || labels < 0 || labels > 15) {
            return REFUSED;
        }
        if (parts.size() == 6) {
            return FULL;
        }
        parts.add(new int[] {v, labels});
        return parts.size();
    }

    int hop(int types, int direction, int low, int high, int v, int labels) {
        if (parts.isEmpty() || types < 1 || types > 7 || direction < 0 || direction > 2 || v < 0 || v > 3) {
            return REFUSED;
        }
        if (labels < 0 || labels > 15 || !(1 <= low && low <= high && high <= 3)) {
            return REFUSED;
        }
        int highs = parts.stream().filter(p -> p.length > 2).mapToInt(p -> p[5]).sum();
        if (highs + high > 5) {
            return REFUSED;
        }
        if (parts.size() == 6) {
            return FULL;
        }
        parts.add(new int[] {v, labels, types, direction, low, high});
        return parts.size();
    }

    int token(int t) {
        boolean known = t >= 0 && t <= 5 || t >= 10 && t <= 16 || t >= 1000 && t <= 10999;
        if (!known || pending.size() == 12) {
            return REFUSED;
        }
        pending.add(t);
        return pending.size();
    }

    private boolean named(int v) {
        return parts.stream().anyMatch(p -> p[0] == v);
    }

    /** The place behind the condition at this place, or -1 if there is none. */
    private int conditionEnd(List<Integer> list, int at) {
        if (at < 0 || at >= list.size()) {
            return -1;
        }
        int token = list.get(at);
        if (token == 14 || token == 15) {
            return conditionEnd(list, conditionEnd(list, at + 1));
        }
        if (token == 16) {
            return conditionEnd(list, at + 1);
        }
        if (token < 10 || token > 13) {
            return -1;
        }
        int end = at + (token == 12 ? 2 : 3);
        for (int i = at + 1; i < end; i++) {
            if (i >= list.size()) {
                return -1;
            }
            int operand = list.get(i);
            boolean number = operand >= 1000 && token != 13;
            if (!number && !(operand <= 3 && named(operand))) {
                return -1;
            }
        }
        return end;
    }

    private static int expressionEnd(List<Integer> list, int at) {
        if (at < 0 || at >= list.size()) {
            return -1;
        }
        int token = list.get(at);
        if (token <= 5) {
            return at + 1;
        }
        if (token == 10 || token == 11) {
            return expressionEnd(list, expressionEnd(list, at + 1));
        }
        return token <= 14 ? expressionEnd(list, at + 1) : -1;
    }

    boolean where() {
        List<Integer> list = new ArrayList<>(pending);
        pending.clear();
        if (!list.isEmpty() && conditionEnd(list, 0) != list.size()) {
            return false;
        }
        condition = list;
        return true;
    }

    boolean spell() {
        List<Integer> list = new ArrayList<>(pending);
        pending.clear();
        if (list.size() > 10 || expressionEnd(list, 0) != list.size()) {
            return false;
        }
        expression = list;
        return true;
    }

    private Boolean truth(int at, Integer[] binding) {
        int token = condition.get(at);
        if (token == 16) {
            Boolean inner = truth(at + 1, binding);
            return inner == null ? null : Boolean.valueOf(!inner);
        }
        if (token == 14 || token == 15) {
            Boolean one = truth(at + 1, binding);
            Boolean other = truth(conditionEnd(condition, at + 1), binding);
            Boolean decisive = token == 15;
            if (decisive.equals(one) || decisive.equals(other)) {
                return decisive;
            }
            return one == null || other == null ? null : Boolean.valueOf(!decisive);
        }
        if (token == 13) {
            return binding[condition.get(at + 1)].equals(binding[condition.get(at + 2)]);
        }
        Integer one = value(at + 1, binding);
        if (token == 12) {
            return one == null;
        }
        Integer other = value(at + 2, binding);
        if (one == null || other == null) {
            return null;
        }
        return token == 10 ? one < other : one.equals(other);
    }

    private Integer value(int at, Integer[] binding) {
        int token = condition.get(at);
        return token >= 1000 ? Integer.valueOf(token - 1000) : nodes[binding[token]][1];
    }

    /** What the matches have in common with each other, gathered until there are too many. */
    private static final class Found {
        private final TreeMap<String, Integer[]> rows = new TreeMap<>();
        private final Set<String> matches = new HashSet<>();
        private final long[] totals = new long[4];
        private final boolean[] someTotal = new boolean[4];
        private int least = Integer.MAX_VALUE;
        private int visits = 0;
    }

    private Found find() {
        Found found = new Found();
        if (!parts.isEmpty()) {
            matchPart(0, 0, new Integer[4], new ArrayList<>(), "", found);
        }
        return found;
    }

    private static boolean tooMany(Found found) {
        return found.matches.size() > 1000;
    }

    private void matchPart(int part, int present, Integer[] binding, List<Integer> used, String told, Found found) {
        found.visits++;
        if (tooMany(found) || found.visits > MOST_VISITS) {
            return;
        }
        if (part == parts.size()) {
            if (condition.isEmpty() || Boolean.TRUE.equals(truth(0, binding))) {
                note(binding, used, told, found);
            }
        } else if (parts.get(part).length == 2) {
            for (int node = 0; node < 8; node++) {
                bind(part, node, binding, used, told, found);
            }
        } else {
            walkHop(part, binding[present], 0, binding, used, told + "|", found);
        }
    }

    private void bind(int part, int node, Integer[] binding, List<Integer> used, String told, Found found) {
        int v = parts.get(part)[0];
        int labels = parts.get(part)[1];
        if (nodes[node] == null || (nodes[node][0] & labels) != labels || binding[v] != null && binding[v] != node) {
            return;
        }
        Integer[] next = binding.clone();
        next[v] = node;
        matchPart(part + 1, v, next, used, told, found);
    }

    private void walkHop(int part, int node, int length, Integer[] binding, List<Integer> used, String told, Found found) {
        int[] hop = parts.get(part);
        if (length >= hop[4]) {
            bind(part, node, binding, used, told, found);
        }
        for (int e = 0; e < 12 && length < hop[5]; e++) {
            if (edges[e] == null || used.contains(e) || (hop[2] & 1 << edges[e][2]) == 0) {
                continue;
            }
            Set<Integer> ends = new HashSet<>();
            if (hop[3] != 1 && edges[e][0] == node) {
                ends.add(edges[e][1]);
            }
            if (hop[3] != 0 && edges[e][1] == node) {
                ends.add(edges[e][0]);
            }
            for (int end : ends) {
                List<Integer> more = new ArrayList<>(used);
                more.add(e);
                walkHop(part, end, length + 1, binding, more, told + "," + e, found);
            }
        }
    }

    private void note(Integer[] binding, List<Integer> used, String told, Found found) {
        String row = Arrays.toString(binding);
        if (!found.matches.add(row + told)) {
            return;
        }
        found.rows.put(row, binding);
        found.least = Math.min(found.least, used.stream().mapToInt(e -> edges[e][3]).sum());
        for (int v = 0; v < 4; v++) {
            if (binding[v] != null && nodes[binding[v]][1] != null) {
                found.totals[v] += nodes[binding[v]][1];
                found.someTotal[v] = true;
            }
        }
    }

    int matches() {
        Found found = find();
        return tooMany(found) ? MANY : found.matches.size();
    }

    int rows() {
        Found found = find();
        return tooMany(found) ? MANY : found.rows.size();
    }

    int row(int k, int v) {
        Found found = find();
        if (tooMany(found) || k < 0 || k >= found.rows.size() || !named(v)) {
            return REFUSED;
        }
        return new ArrayList<>(found.rows.values()).get(k)[v];
    }

    long total(int v) {
        Found found = find();
        return tooMany(found) || !named(v) || !found.someTotal[v] ? NULL : found.totals[v];
    }

    int least() {
        Found found = find();
        return tooMany(found) || found.matches.isEmpty() ? REFUSED : found.least;
    }

    /** Whether the query is more than this model can answer in a short time; its answers are wrong then. */
    boolean isBeyondReach() {
        return find().visits > MOST_VISITS;
    }

    /**
     * A machine for the expression: moves are {state, token or -1, state}. Answers the state in which
     * what starts at this place in this state ends.
     */
    private int build(int at, int from, List<int[]> moves, int[] states) {
        int token = expression.get(at);
        if (token == 10) {
            int middle = build(at + 1, from, moves, states);
            return build(expressionEnd(expression, at + 1), middle, moves, states);
        }
        int to = ++states[0];
        if (token <= 5) {
            moves.add(new int[] {from, token, to});
        } else if (token == 11) {
            moves.add(new int[] {build(at + 1, from, moves, states), -1, to});
            moves.add(new int[] {build(expressionEnd(expression, at + 1), from, moves, states), -1, to});
        } else {
            // States of its own around what is repeated: else a way back could leave by another branch.
            int inner = ++states[0];
            moves.add(new int[] {from, -1, inner});
            int end = build(at + 1, inner, moves, states);
            moves.add(new int[] {end, -1, to});
            if (token != 14) {
                moves.add(new int[] {end, -1, inner});
            }
            if (token != 13) {
                moves.add(new int[] {from, -1, to});
            }
        }
        return to;
    }

    /** For each node the least number of edges, or REFUSED. */
    private int[] walks(int from) {
        int[] least = new int[8];
        Arrays.fill(least, REFUSED);
        if (!has(from) || expression.isEmpty()) {
            return least;
        }
        List<int[]> moves = new ArrayList<>();
        int[] states = {0};
        int last = build(0, 0, moves, states);
        Set<Integer> layer = new HashSet<>(Set.of(from));
        Set<Integer> seen = new HashSet<>();
        for (int length = 0; !layer.isEmpty(); length++) {
            closeFree(layer, moves);
            layer.removeAll(seen);
            seen.addAll(layer);
            Set<Integer> next = new HashSet<>();
            for (int place : layer) {
                if (place / 8 == last && least[place % 8] == REFUSED) {
                    least[place % 8] = length;
                }
                addMoves(place, moves, next);
            }
            layer = next;
        }
        return least;
    }

    private static void closeFree(Set<Integer> layer, List<int[]> moves) {
        boolean grown = true;
        while (grown) {
            grown = false;
            for (int place : new ArrayList<>(layer)) {
                for (int[] m : moves) {
                    if (m[1] < 0 && m[0] == place / 8) {
                        grown |= layer.add(m[2] * 8 + place % 8);
                    }
                }
            }
        }
    }

    private void addMoves(int place, List<int[]> moves, Set<Integer> next) {
        for (int[] m : moves) {
            for (int[] e : edges) {
                if (m[1] < 0 || m[0] != place / 8 || e == null || e[2] != m[1] % 3) {
                    continue;
                }
                if (e[m[1] < 3 ? 0 : 1] == place % 8) {
                    next.add(m[2] * 8 + e[m[1] < 3 ? 1 : 0]);
                }
            }
        }
    }

    int walk(int from, int to) {
        return has(to) ? walks(from)[to] : REFUSED;
    }

    int reach(int from) {
        int set = 0;
        int[] walks = walks(from);
        for (int to = 0; to < 8; to++) {
            set |= walks[to] == REFUSED ? 0 : 1 << to;
        }
        return set;
    }

    long property(int node) {
        return has(node) && nodes[node][1] != null ? nodes[node][1] : NULL;
    }

    int there() {
        int sum = savedNodes.size() << 20;
        for (int i = 0; i < 8; i++) {
            sum += nodes[i] == null ? 0 : 1 << i;
        }
        for (int i = 0; i < 12; i++) {
            sum += edges[i] == null ? 0 : 256 << i;
        }
        return sum;
    }
}
