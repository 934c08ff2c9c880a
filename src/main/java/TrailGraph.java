/**
 * A small graph with properties, after ../shared/DOC.md. The words of that document are used here:
 * part, hop, trail, choice of nodes, match, condition, expression, walk.
 */
public final class TrailGraph {
    public static final int REFUSED = -1;
    public static final int FULL = -2;
    public static final int MANY = -3;
    public static final long NULL = 9000000000000000000L;

    private static final int NODES = 8;
    private static final int EDGES = 12;
    private static final int TYPES = 3;
    private static final int MOST_LABELS = 15;
    private static final int MOST_TYPES = 7;
    private static final int MOST_WEIGHT = 100;
    private static final int LEVELS = 4;
    private static final int SAVED_NODES = LEVELS * NODES;
    private static final int SAVED_EDGES = LEVELS * EDGES;
    private static final int EDGES_IN_THERE = 8;
    private static final int LEVEL_IN_THERE = 20;

    // An edge is one number, so that a saved level keeps one array of them and not four.
    private static final int TO_SHIFT = 3;
    private static final int TYPE_SHIFT = 6;
    private static final int WEIGHT_SHIFT = 8;
    private static final int NODE_MASK = 7;
    private static final int TYPE_MASK = 3;

    private static final int VARIABLES = 4;
    private static final int PARTS = 6;
    private static final int MOST_HOP_EDGES = 3;
    private static final int MOST_MATCH_EDGES = 5;
    private static final int ARRIVALS = PARTS * NODES;
    private static final int START_PART = 0;
    private static final int ALONG = 0;
    private static final int AGAINST = 1;
    private static final int EITHER_WAY = 2;

    private static final int TOKENS = 12;
    private static final int FIRST_NUMBER = 1000;
    private static final int LAST_NUMBER = 10999;
    private static final int LESS = 10;
    private static final int EQUAL = 11;
    private static final int IS_NULL = 12;
    private static final int SAME = 13;
    private static final int AND = 14;
    private static final int OR = 15;
    private static final int NOT = 16;

    // In this order AND is the lesser of two, OR the greater, and NOT the distance from TRUE.
    private static final int FALSE = 0;
    private static final int UNKNOWN = 1;
    private static final int TRUE = 2;

    private static final int EXPRESSION_TOKENS = 10;
    private static final int LAST_EDGE_TOKEN = 5;
    private static final int THEN = 10;
    private static final int ONE_OF = 11;
    private static final int ONCE_OR_MORE = 13;
    private static final int ONCE_OR_NOT = 14;
    private static final int TABLE = NODES * NODES;
    // One table for each token and a spare one on top.
    private static final int TABLES = (EXPRESSION_TOKENS + 1) * TABLE;
    // Above the length of any least walk (it has fewer edges than 11 places of the list times 8 nodes).
    private static final int FAR = 1000000;

    private static final int MOST_MATCHES = 1000;
    private static final int ROWS = MOST_MATCHES + 1;
    private static final int MORE_THAN_ANY_WEIGHT = 1000000;
    private static final int NONE = -1;
    // Each edge can be taken in two ways: the hop goes on after it, or it is the last of its hop.
    private static final int STEP_CHOICES = 2 * EDGES;
    // 24 choices in each of 5 steps make 346201 places to choose at; each is looked at 25 times.
    private static final int MOST_TRIES = 10000000;

    private int nodesThere = 0;
    private int edgesThere = 0;
    private final int[] labelsOf = new int[NODES];
    private final long[] propertyOf = new long[NODES];
    private final int[] edgeData = new int[EDGES];

    private int level = 0;
    private final int[] savedNodesThere = new int[LEVELS];
    private final int[] savedEdgesThere = new int[LEVELS];
    private final int[] savedLabels = new int[SAVED_NODES];
    private final long[] savedProperties = new long[SAVED_NODES];
    private final int[] savedEdgeData = new int[SAVED_EDGES];

    private int partCount = 0;
    private final int[] partVariable = new int[PARTS];
    private final int[] partLabels = new int[PARTS];
    // A hop has at least one type, so START_PART in this array tells a start.
    private final int[] hopTypes = new int[PARTS];
    private final int[] hopDirection = new int[PARTS];
    private final int[] hopLow = new int[PARTS];
    private final int[] hopHigh = new int[PARTS];

    private int pendingCount = 0;
    private final int[] pending = new int[TOKENS];
    private int conditionCount = 0;
    private final int[] condition = new int[TOKENS];
    private int expressionCount = 0;
    private final int[] expression = new int[EXPRESSION_TOKENS];

    // What a call works with and leaves behind; nothing of it counts for a later call.
    private final int[] truths = new int[TOKENS];
    private final int[] distances = new int[TABLES];
    private final int[] chosen = new int[VARIABLES];
    private final int[] arrivals = new int[ARRIVALS];
    private int matchCount = 0;
    private int leastWeight = 0;
    private int rowCount = 0;
    private final int[] rowNodes = new int[ROWS];
    private final int[] rowMatches = new int[ROWS];
    private final int[] stepPart = new int[MOST_MATCH_EDGES];
    private final int[] stepLength = new int[MOST_MATCH_EDGES];
    private final int[] stepNode = new int[MOST_MATCH_EDGES];
    private final int[] stepUsed = new int[MOST_MATCH_EDGES];
    private final int[] stepChoice = new int[MOST_MATCH_EDGES];

    public TrailGraph() {
    }

    // ---- nodes and edges ----

    public int node(int labels) {
        if (labels < 0 || labels > MOST_LABELS) {
            return REFUSED;
        }
        int node = leastFree(nodesThere, NODES);
        if (node >= NODES) {
            return FULL;
        }
        nodesThere |= 1 << node;
        labelsOf[node] = labels;
        propertyOf[node] = NULL;
        return node;
    }

    public boolean set(int node, int value) {
        if (!nodeIsThere(node)) {
            return false;
        }
        propertyOf[node] = value;
        return true;
    }

    public boolean clear(int node) {
        if (!nodeIsThere(node)) {
            return false;
        }
        propertyOf[node] = NULL;
        return true;
    }

    public int label(int node, int labels) {
        if (!nodeIsThere(node) || labels < 0 || labels > MOST_LABELS) {
            return REFUSED;
        }
        int old = labelsOf[node];
        labelsOf[node] = labels;
        return old;
    }

    public int edge(int from, int to, int type, int weight) {
        if (!nodeIsThere(from) || !nodeIsThere(to)) {
            return REFUSED;
        }
        if (type < 0 || type >= TYPES || weight < 0 || weight > MOST_WEIGHT) {
            return REFUSED;
        }
        int edge = leastFree(edgesThere, EDGES);
        if (edge >= EDGES) {
            return FULL;
        }
        edgesThere |= 1 << edge;
        edgeData[edge] = from | to << TO_SHIFT | type << TYPE_SHIFT | weight << WEIGHT_SHIFT;
        return edge;
    }

    public boolean cut(int edge) {
        if (edge < 0 || edge >= EDGES || !isIn(edgesThere, edge)) {
            return false;
        }
        edgesThere &= ~(1 << edge);
        return true;
    }

    public int remove(int node, boolean detach) {
        if (!nodeIsThere(node)) {
            return REFUSED;
        }
        int gone = 0;
        int left = edgesThere;
        for (int edge = 0; edge < EDGES; edge++) {
            if (isIn(edgesThere, edge) && (fromOf(edge) == node || toOf(edge) == node)) {
                left &= ~(1 << edge);
                gone++;
            }
        }
        if (gone > 0 && !detach) {
            return REFUSED;
        }
        edgesThere = left;
        nodesThere &= ~(1 << node);
        return gone;
    }

    public long property(int node) {
        return nodeIsThere(node) ? propertyOf[node] : NULL;
    }

    public int there() {
        return nodesThere | edgesThere << EDGES_IN_THERE | level << LEVEL_IN_THERE;
    }

    private static boolean isIn(int set, int member) {
        return (set >> member & 1) != 0;
    }

    private static int leastFree(int taken, int count) {
        int number = 0;
        while (number < count && isIn(taken, number)) {
            number++;
        }
        return number;
    }

    private boolean nodeIsThere(int node) {
        return node >= 0 && node < NODES && isIn(nodesThere, node);
    }

    private int fromOf(int edge) {
        return edgeData[edge] & NODE_MASK;
    }

    private int toOf(int edge) {
        return edgeData[edge] >> TO_SHIFT & NODE_MASK;
    }

    private int typeOf(int edge) {
        return edgeData[edge] >> TYPE_SHIFT & TYPE_MASK;
    }

    // ---- transactions ----

    public int begin() {
        if (level >= LEVELS) {
            return FULL;
        }
        saveGraph(level);
        level++;
        return level;
    }

    public int commit() {
        if (level <= 0) {
            return REFUSED;
        }
        level--;
        return level;
    }

    public int rollback() {
        if (level <= 0) {
            return REFUSED;
        }
        level--;
        restoreGraph(level);
        return level;
    }

    private void saveGraph(int place) {
        savedNodesThere[place] = nodesThere;
        savedEdgesThere[place] = edgesThere;
        for (int node = 0; node < NODES; node++) {
            savedLabels[place * NODES + node] = labelsOf[node];
            savedProperties[place * NODES + node] = propertyOf[node];
        }
        for (int edge = 0; edge < EDGES; edge++) {
            savedEdgeData[place * EDGES + edge] = edgeData[edge];
        }
    }

    private void restoreGraph(int place) {
        nodesThere = savedNodesThere[place];
        edgesThere = savedEdgesThere[place];
        for (int node = 0; node < NODES; node++) {
            labelsOf[node] = savedLabels[place * NODES + node];
            propertyOf[node] = savedProperties[place * NODES + node];
        }
        for (int edge = 0; edge < EDGES; edge++) {
            edgeData[edge] = savedEdgeData[place * EDGES + edge];
        }
    }

    // ---- the query's parts ----

    public int forget() {
        int parts = partCount;
        partCount = 0;
        conditionCount = 0;
        return parts;
    }

    public int start(int v, int labels) {
        if (!canName(v, labels)) {
            return REFUSED;
        }
        if (partCount >= PARTS) {
            return FULL;
        }
        hopTypes[partCount] = START_PART;
        addPart(v, labels);
        return partCount;
    }

    public int hop(int types, int direction, int low, int high, int v, int labels) {
        if (partCount == 0 || types < 1 || types > MOST_TYPES || !canName(v, labels)) {
            return REFUSED;
        }
        if (direction < ALONG || direction > EITHER_WAY) {
            return REFUSED;
        }
        // The bound on high is looked at before the sum, which a huge high would wrap around.
        if (low < 1 || low > high || high > MOST_HOP_EDGES || highsTogether() + high > MOST_MATCH_EDGES) {
            return REFUSED;
        }
        if (partCount >= PARTS) {
            return FULL;
        }
        hopTypes[partCount] = types;
        hopDirection[partCount] = direction;
        hopLow[partCount] = low;
        hopHigh[partCount] = high;
        addPart(v, labels);
        return partCount;
    }

    private static boolean canName(int v, int labels) {
        return v >= 0 && v < VARIABLES && labels >= 0 && labels <= MOST_LABELS;
    }

    private void addPart(int v, int labels) {
        partVariable[partCount] = v;
        partLabels[partCount] = labels;
        partCount++;
    }

    private int highsTogether() {
        int sum = 0;
        for (int part = 0; part < partCount; part++) {
            if (hopTypes[part] != START_PART) {
                sum += hopHigh[part];
            }
        }
        return sum;
    }

    private boolean isNamed(int v) {
        for (int part = 0; part < partCount; part++) {
            if (partVariable[part] == v) {
                return true;
            }
        }
        return false;
    }

    // ---- tokens, conditions and expressions as lists ----

    public int token(int t) {
        boolean operand = t >= 0 && t <= LAST_EDGE_TOKEN;
        boolean operator = t >= LESS && t <= NOT;
        boolean number = t >= FIRST_NUMBER && t <= LAST_NUMBER;
        if (!operand && !operator && !number || pendingCount >= TOKENS) {
            return REFUSED;
        }
        pending[pendingCount] = t;
        pendingCount++;
        return pendingCount;
    }

    public boolean where() {
        int count = pendingCount;
        pendingCount = 0;
        if (count > 0 && !isCondition(count)) {
            return false;
        }
        for (int at = 0; at < count; at++) {
            condition[at] = pending[at];
        }
        conditionCount = count;
        return true;
    }

    public boolean spell() {
        int count = pendingCount;
        pendingCount = 0;
        if (count > EXPRESSION_TOKENS || !isExpression(count)) {
            return false;
        }
        for (int at = 0; at < count; at++) {
            expression[at] = pending[at];
        }
        expressionCount = count;
        return true;
    }

    /**
     * Conditions stand only below AND, OR and NOT, values and variables only right behind the
     * operator that wants them; so two counts of what is still wanted do for a stack.
     */
    private boolean isCondition(int count) {
        int conditions = 1;
        int operands = 0;
        boolean numbersToo = false;
        for (int at = 0; at < count; at++) {
            int token = pending[at];
            if (operands > 0) {
                if (!isOperand(token, numbersToo)) {
                    return false;
                }
                operands--;
            } else if (conditions == 0 || token < LESS || token > NOT) {
                return false;
            } else if (token == AND || token == OR) {
                conditions++;
            } else if (token != NOT) {
                conditions--;
                operands = token == IS_NULL ? 1 : 2;
                numbersToo = token != SAME;
            }
        }
        return conditions == 0 && operands == 0;
    }

    private boolean isOperand(int token, boolean numbersToo) {
        return token < FIRST_NUMBER ? isNamed(token) : numbersToo;
    }

    private boolean isExpression(int count) {
        int wanted = 1;
        for (int at = 0; at < count; at++) {
            int token = pending[at];
            if (wanted == 0 || token > ONCE_OR_NOT) {
                return false;
            }
            if (token <= LAST_EDGE_TOKEN) {
                wanted--;
            } else if (token == THEN || token == ONE_OF) {
                wanted++;
            }
        }
        return wanted == 0;
    }

    // ---- what the matches answer ----

    public int matches() {
        survey();
        return matchCount > MOST_MATCHES ? MANY : matchCount;
    }

    public int rows() {
        survey();
        return matchCount > MOST_MATCHES ? MANY : rowCount;
    }

    public int row(int k, int v) {
        if (k < 0 || !isNamed(v)) {
            return REFUSED;
        }
        survey();
        if (matchCount > MOST_MATCHES || k >= rowCount) {
            return REFUSED;
        }
        return nodeInRow(k, v);
    }

    public long total(int v) {
        if (!isNamed(v)) {
            return NULL;
        }
        survey();
        if (matchCount > MOST_MATCHES) {
            return NULL;
        }
        long sum = 0;
        boolean found = false;
        for (int k = 0; k < rowCount; k++) {
            long value = propertyOf[nodeInRow(k, v)];
            if (value != NULL) {
                sum += value * rowMatches[k];
                found = true;
            }
        }
        return found ? sum : NULL;
    }

    public int least() {
        survey();
        if (matchCount == 0 || matchCount > MOST_MATCHES) {
            return REFUSED;
        }
        return leastWeight;
    }

    private int nodeInRow(int k, int v) {
        return rowNodes[k] >> 3 * v & NODE_MASK;
    }

    // ---- the search for matches ----

    /**
     * Goes through the choices of nodes first and only then through the edges: so the rows come
     * in their order, and the condition is tested once for each of them. It stops when there are
     * too many matches, which also keeps the rows within their arrays.
     */
    private void survey() {
        matchCount = 0;
        rowCount = 0;
        leastWeight = MORE_THAN_ANY_WEIGHT;
        if (partCount == 0) {
            return;
        }
        findArrivals();
        int candidates0 = candidatesFor(0);
        int candidates1 = candidatesFor(1);
        int candidates2 = candidatesFor(2);
        int candidates3 = candidatesFor(3);
        for (int a = 0; a < NODES; a++) {
            if (!isIn(candidates0, a)) {
                continue;
            }
            for (int b = 0; b < NODES; b++) {
                if (!isIn(candidates1, b)) {
                    continue;
                }
                for (int c = 0; c < NODES; c++) {
                    if (!isIn(candidates2, c)) {
                        continue;
                    }
                    for (int d = 0; d < NODES; d++) {
                        if (isIn(candidates3, d) && matchCount <= MOST_MATCHES) {
                            tryNodes(a, b, c, d);
                        }
                    }
                }
            }
        }
    }

    /** A variable that no part names gets node 0 alone, so that it does not multiply the choices. */
    private int candidatesFor(int v) {
        if (!isNamed(v)) {
            return 1;
        }
        int candidates = nodesThere;
        for (int part = 0; part < partCount; part++) {
            for (int node = 0; node < NODES; node++) {
                if (partVariable[part] == v && (labelsOf[node] & partLabels[part]) != partLabels[part]) {
                    candidates &= ~(1 << node);
                }
            }
        }
        return candidates;
    }

    /**
     * For each hop and node, the nodes where a walk of the hop's kind can end. A trail ends
     * nowhere else, so most choices of nodes are put aside without a search among the edges.
     */
    private void findArrivals() {
        for (int part = 0; part < partCount; part++) {
            for (int node = 0; node < NODES && hopTypes[part] != START_PART; node++) {
                int reached = 1 << node;
                int ends = 0;
                for (int length = 1; length <= hopHigh[part]; length++) {
                    reached = oneEdgeOn(reached, part);
                    if (length >= hopLow[part]) {
                        ends |= reached;
                    }
                }
                arrivals[part * NODES + node] = ends;
            }
        }
    }

    private int oneEdgeOn(int nodes, int hop) {
        int next = 0;
        for (int node = 0; node < NODES; node++) {
            for (int edge = 0; edge < EDGES && isIn(nodes, node); edge++) {
                int end = farEnd(edge, node, hop);
                if (end != NONE) {
                    next |= 1 << end;
                }
            }
        }
        return next;
    }

    /** Either way is tried along first and then against, so an edge from a node to itself counts once. */
    private int farEnd(int edge, int node, int hop) {
        int type = typeOf(edge);
        if (!isIn(edgesThere, edge) || !isIn(hopTypes[hop], type)) {
            return NONE;
        }
        if (hopDirection[hop] != AGAINST && fromOf(edge) == node) {
            return toOf(edge);
        }
        if (hopDirection[hop] != ALONG && toOf(edge) == node) {
            return fromOf(edge);
        }
        return NONE;
    }

    private void tryNodes(int a, int b, int c, int d) {
        chosen[0] = a;
        chosen[1] = b;
        chosen[2] = c;
        chosen[3] = d;
        if (!hopsCanArrive() || !conditionHolds()) {
            return;
        }
        int before = matchCount;
        findTrails();
        if (matchCount > before && rowCount < ROWS) {
            rowNodes[rowCount] = a | b << 3 | c << 6 | d << 9;
            rowMatches[rowCount] = matchCount - before;
            rowCount++;
        }
    }

    private boolean hopsCanArrive() {
        for (int part = 1; part < partCount; part++) {
            int from = chosen[partVariable[part - 1]];
            int to = chosen[partVariable[part]];
            if (hopTypes[part] != START_PART && !isIn(arrivals[part * NODES + from], to)) {
                return false;
            }
        }
        return true;
    }

    /** Counts the choices of edges for the chosen nodes, one step for each edge of the match. */
    private void findTrails() {
        int hop = nextHop(0);
        if (hop >= partCount) {
            addMatch(0);
            return;
        }
        openStep(0, hop, 0, chosen[partVariable[hop - 1]], 0);
        int depth = 0;
        for (int tries = 0; tries < MOST_TRIES && depth >= 0 && matchCount <= MOST_MATCHES; tries++) {
            int choice = stepChoice[depth];
            stepChoice[depth] = choice + 1;
            if (choice >= STEP_CHOICES) {
                depth--;
                continue;
            }
            int edge = choice / 2;
            int end = isIn(stepUsed[depth], edge) ? NONE : farEnd(edge, stepNode[depth], stepPart[depth]);
            if (end == NONE) {
                continue;
            }
            boolean goesOn = choice % 2 == 0 ? continueHop(depth, edge, end) : endHop(depth, edge, end);
            if (goesOn) {
                depth++;
            }
        }
    }

    /** Answers, as endHop does, whether a next step is open. */
    private boolean continueHop(int depth, int edge, int end) {
        int hop = stepPart[depth];
        int length = stepLength[depth] + 1;
        return length < hopHigh[hop] && openStep(depth + 1, hop, length, end, stepUsed[depth] | 1 << edge);
    }

    private boolean endHop(int depth, int edge, int end) {
        int hop = stepPart[depth];
        if (stepLength[depth] + 1 < hopLow[hop] || end != chosen[partVariable[hop]]) {
            return false;
        }
        int used = stepUsed[depth] | 1 << edge;
        int next = nextHop(hop);
        if (next >= partCount) {
            addMatch(used);
            return false;
        }
        return openStep(depth + 1, next, 0, chosen[partVariable[next - 1]], used);
    }

    private int nextHop(int part) {
        int next = part + 1;
        while (next < partCount && hopTypes[next] == START_PART) {
            next++;
        }
        return next;
    }

    private boolean openStep(int depth, int hop, int length, int node, int used) {
        if (depth >= MOST_MATCH_EDGES) {
            return false;
        }
        stepPart[depth] = hop;
        stepLength[depth] = length;
        stepNode[depth] = node;
        stepUsed[depth] = used;
        stepChoice[depth] = 0;
        return true;
    }

    private void addMatch(int used) {
        int weight = 0;
        for (int edge = 0; edge < EDGES; edge++) {
            weight += (used >> edge & 1) * (edgeData[edge] >> WEIGHT_SHIFT);
        }
        if (weight < leastWeight) {
            leastWeight = weight;
        }
        matchCount++;
    }

    // ---- the condition for the chosen nodes ----

    /** Read from its end, so that what an operator joins has its truth already. */
    private boolean conditionHolds() {
        int depth = 0;
        for (int at = conditionCount - 1; at >= 0; at--) {
            int token = condition[at];
            if (token >= LESS && token <= SAME) {
                truths[depth] = comparison(at);
                depth++;
            } else if (token == NOT) {
                truths[depth - 1] = TRUE - truths[depth - 1];
            } else if (token == AND || token == OR) {
                depth--;
                truths[depth - 1] = joined(token, truths[depth], truths[depth - 1]);
            }
        }
        return conditionCount == 0 || truths[0] == TRUE;
    }

    private static int joined(int operator, int one, int other) {
        int lesser = one < other ? one : other;
        return operator == AND ? lesser : one + other - lesser;
    }

    private int comparison(int at) {
        if (condition[at] == SAME) {
            return chosen[condition[at + 1]] == chosen[condition[at + 2]] ? TRUE : FALSE;
        }
        long one = valueOf(condition[at + 1]);
        if (condition[at] == IS_NULL) {
            return one == NULL ? TRUE : FALSE;
        }
        long other = valueOf(condition[at + 2]);
        if (one == NULL || other == NULL) {
            return UNKNOWN;
        }
        boolean holds = condition[at] == EQUAL ? one == other : one < other;
        return holds ? TRUE : FALSE;
    }

    private long valueOf(int token) {
        return token < VARIABLES ? propertyOf[chosen[token]] : token - FIRST_NUMBER;
    }

    // ---- walks ----

    public int walk(int from, int to) {
        if (!nodeIsThere(from) || !nodeIsThere(to) || expressionCount == 0) {
            return REFUSED;
        }
        measureWalks();
        int distance = distances[from * NODES + to];
        return distance < FAR ? distance : REFUSED;
    }

    public int reach(int from) {
        if (!nodeIsThere(from) || expressionCount == 0) {
            return 0;
        }
        measureWalks();
        int reached = 0;
        for (int to = 0; to < NODES; to++) {
            if (distances[from * NODES + to] < FAR) {
                reached |= 1 << to;
            }
        }
        return reached;
    }

    /**
     * Makes a table of the least walks between all nodes for each part of the expression, read
     * from its end; the tables stand on each other, and the one of the whole is left at the bottom.
     */
    private void measureWalks() {
        int depth = 0;
        for (int at = expressionCount - 1; at >= 0; at--) {
            int token = expression[at];
            if (token <= LAST_EDGE_TOKEN) {
                measureEdges(depth * TABLE, token);
                depth++;
            } else if (token == THEN || token == ONE_OF) {
                depth--;
                if (token == THEN) {
                    measureBoth(depth * TABLE, (depth - 1) * TABLE);
                } else {
                    measureEither(depth * TABLE, (depth - 1) * TABLE);
                }
            } else {
                measureTimes((depth - 1) * TABLE, token);
            }
        }
    }

    private void measureEdges(int table, int token) {
        for (int cell = 0; cell < TABLE; cell++) {
            distances[table + cell] = FAR;
        }
        for (int edge = 0; edge < EDGES; edge++) {
            if (isIn(edgesThere, edge) && typeOf(edge) == token % TYPES) {
                int from = token < TYPES ? fromOf(edge) : toOf(edge);
                int to = token < TYPES ? toOf(edge) : fromOf(edge);
                distances[table + from * NODES + to] = 1;
            }
        }
    }

    /** First one, then other; the result takes the place of other, by way of the table above one. */
    private void measureBoth(int one, int other) {
        int spare = one + TABLE;
        for (int cell = 0; cell < TABLE; cell++) {
            int from = cell / NODES;
            int to = cell % NODES;
            int shortest = FAR;
            for (int middle = 0; middle < NODES; middle++) {
                int sum = distances[one + from * NODES + middle] + distances[other + middle * NODES + to];
                if (sum < shortest) {
                    shortest = sum;
                }
            }
            distances[spare + cell] = shortest;
        }
        for (int cell = 0; cell < TABLE; cell++) {
            distances[other + cell] = distances[spare + cell];
        }
    }

    private void measureEither(int one, int other) {
        for (int cell = 0; cell < TABLE; cell++) {
            if (distances[one + cell] < distances[other + cell]) {
                distances[other + cell] = distances[one + cell];
            }
        }
    }

    private void measureTimes(int table, int token) {
        if (token != ONCE_OR_NOT) {
            allowRepeats(table);
        }
        if (token != ONCE_OR_MORE) {
            for (int node = 0; node < NODES; node++) {
                distances[table + node * NODES + node] = 0;
            }
        }
    }

    /** The middle node must be the outer loop: a walk is put together from shorter ones over lower middles. */
    private void allowRepeats(int table) {
        for (int middle = 0; middle < NODES; middle++) {
            for (int cell = 0; cell < TABLE; cell++) {
                int first = distances[table + cell / NODES * NODES + middle];
                int second = distances[table + middle * NODES + cell % NODES];
                if (first + second < distances[table + cell]) {
                    distances[table + cell] = first + second;
                }
            }
        }
    }
}
