/**
 * A workbench for two-dimensional periodic nets that are given as quotient graphs with integer
 * shifts. What each method promises is written in ../shared/DOC.md.
 */
public final class PeriodicNet {
    public static final int OUT_OF_RANGE = -2;
    public static final int EXISTS = -3;
    public static final int FULL = -4;
    public static final int TOO_FAR = -5;
    public static final int NOT_CONNECTED = -6;
    public static final int NOTHING_SAVED = -7;
    public static final int NONE = -1;

    private static final int MAX_VERTICES = 6;
    private static final int MAX_EDGES = 12;
    private static final int MAX_SHIFT = 2;
    private static final int MAX_CELL = 8;
    private static final int MAX_STEPS = 8;
    private static final int MAX_RING = 12;
    private static final int MAX_SAVED = 5;
    private static final int MAX_KIND = 3;
    private static final int ERROR_CODES = 6;
    private static final int DIGEST_START = 2699;
    private static final int DIGEST_ORDERS = 4;

    private final int[] errors;
    private final Graph graph;
    private final Graph draft;
    private final Graph[] saved;
    private int savedCount;
    private final Ends ends;
    private final Search search;
    private final Component component;
    private final Placement placement;

    public PeriodicNet() {
        errors = new int[ERROR_CODES];
        graph = new Graph();
        draft = new Graph();
        saved = new Graph[MAX_SAVED];
        for (int k = 0; k < MAX_SAVED; k++) {
            saved[k] = new Graph();
        }
        savedCount = 0;
        ends = new Ends();
        search = new Search();
        component = new Component();
        placement = new Placement();
    }

    // ---- quotient graph

    public int reset(int n) {
        if (n < 1 || n > MAX_VERTICES) {
            return fail(OUT_OF_RANGE);
        }
        int before = graph.vertexCount;
        draft.clear(n);
        commitDraft();
        return before;
    }

    public int addEdge(int a, int b, int x, int y) {
        if (!isVertex(a) || !isVertex(b) || !isShift(x) || !isShift(y)) {
            return fail(OUT_OF_RANGE);
        }
        if (a == b && x == 0 && y == 0) {
            return fail(OUT_OF_RANGE);
        }
        if (graph.edgeBetween(a, b, x, y) != NONE) {
            return fail(EXISTS);
        }
        if (graph.edgeCount >= MAX_EDGES) {
            return fail(FULL);
        }
        draft.copyFrom(graph);
        draft.append(a, b, x, y);
        commitDraft();
        return graph.edgeCount - 1;
    }

    public int removeEdge(int edge) {
        if (edge < 0 || edge >= graph.edgeCount) {
            return fail(OUT_OF_RANGE);
        }
        draft.copyFrom(graph);
        draft.dropEdge(edge);
        commitDraft();
        return graph.edgeCount;
    }

    public int findEdge(int a, int b, int x, int y) {
        if (!isVertex(a) || !isVertex(b)) {
            return fail(OUT_OF_RANGE);
        }
        return graph.edgeBetween(a, b, x, y);
    }

    public int moveVertex(int v, int x, int y) {
        if (!isVertex(v) || !isShift(x) || !isShift(y)) {
            return fail(OUT_OF_RANGE);
        }
        draft.copyFrom(graph);
        draft.renameNodes(v, x, y);
        return commitShifts();
    }

    public int changeBasis(int kind) {
        if (kind < 0 || kind > MAX_KIND) {
            return fail(OUT_OF_RANGE);
        }
        draft.copyFrom(graph);
        draft.turnShifts(kind);
        return commitShifts();
    }

    public int vertices() {
        return graph.vertexCount;
    }

    public int edges() {
        return graph.edgeCount;
    }

    public int degree(int v) {
        if (!isVertex(v)) {
            return fail(OUT_OF_RANGE);
        }
        return ends.count[v];
    }

    public int neighbour(int v, int end) {
        if (!isEnd(v, end)) {
            return fail(OUT_OF_RANGE);
        }
        return ends.target[v][end];
    }

    // ---- the net

    public int coordination(int v, int n) {
        if (!isVertex(v) || n < 0 || n > MAX_STEPS) {
            return fail(OUT_OF_RANGE);
        }
        walkAround(v, n, NONE);
        return search.nodesAfter(n);
    }

    public int distance(int v, int w, int i, int j) {
        if (!isVertex(v) || !isVertex(w) || !isCell(i) || !isCell(j)) {
            return fail(OUT_OF_RANGE);
        }
        int goal = search.nodeAt(w, i, j);
        walkAround(v, MAX_STEPS, goal);
        return search.stepsTo(goal);
    }

    public int rank(int v) {
        if (!isVertex(v)) {
            return fail(OUT_OF_RANGE);
        }
        component.explore(graph, v);
        return component.latticeRank();
    }

    public int index(int v) {
        if (!isVertex(v)) {
            return fail(OUT_OF_RANGE);
        }
        component.explore(graph, v);
        return component.latticeIndex();
    }

    public int isConnected() {
        return isOnePiece() ? 1 : 0;
    }

    public int ring(int v, int p, int q) {
        if (!isEnd(v, p) || !isEnd(v, q) || p == q) {
            return fail(OUT_OF_RANGE);
        }
        // A smallest ring is node (v, 0, 0) and a shortest way past it between its two neighbours.
        int start = search.nodeAt(ends.target[v][p], ends.stepX[v][p], ends.stepY[v][p]);
        int goal = search.nodeAt(ends.target[v][q], ends.stepX[v][q], ends.stepY[v][q]);
        search.forget();
        search.close(search.nodeAt(v, 0, 0));
        search.mark(start, 0);
        search.walk(ends, MAX_RING - 2, goal);
        int steps = search.stepsTo(goal);
        return steps == NONE ? NONE : steps + 2;
    }

    // ---- placement

    public long numerator(int v, int axis) {
        int trouble = placementTrouble(v, axis);
        if (trouble != 0) {
            return fail(trouble);
        }
        placement.solve(graph);
        return placement.top(v, axis);
    }

    public long denominator(int v, int axis) {
        int trouble = placementTrouble(v, axis);
        if (trouble != 0) {
            return fail(trouble);
        }
        placement.solve(graph);
        return placement.bottom(v, axis);
    }

    public int collide(int v, int w) {
        if (!isVertex(v) || !isVertex(w) || v == w) {
            return fail(OUT_OF_RANGE);
        }
        if (!isOnePiece()) {
            return fail(NOT_CONNECTED);
        }
        placement.solve(graph);
        return placement.meet(v, w) ? 1 : 0;
    }

    public int collisions() {
        if (!isOnePiece()) {
            return fail(NOT_CONNECTED);
        }
        placement.solve(graph);
        int pairs = 0;
        for (int v = 0; v < graph.vertexCount; v++) {
            for (int w = v + 1; w < graph.vertexCount; w++) {
                if (placement.meet(v, w)) {
                    pairs++;
                }
            }
        }
        return pairs;
    }

    public int positionBits(int v, int axis) {
        int trouble = placementTrouble(v, axis);
        if (trouble != 0) {
            return fail(trouble);
        }
        placement.solve(graph);
        float below = (float) placement.bottom(v, axis);
        return below > 0 ? floatBits((float) placement.top(v, axis) / below) : 0;
    }

    // ---- state

    public int undo() {
        if (savedCount < 1) {
            return fail(NOTHING_SAVED);
        }
        savedCount--;
        graph.copyFrom(saved[savedCount]);
        ends.listAll(graph);
        return savedCount;
    }

    public int errorCount(int code) {
        if (code > OUT_OF_RANGE || code < NOTHING_SAVED) {
            return fail(OUT_OF_RANGE);
        }
        return errors[OUT_OF_RANGE - code];
    }

    public long digest() {
        long h = DIGEST_START;
        for (int k = 0; k < ERROR_CODES; k++) {
            h = mix(h, errors[k]);
        }
        h = mixGraph(h);
        for (int v = 0; v < graph.vertexCount; v++) {
            h = mixSurroundings(h, v);
        }
        boolean whole = isOnePiece();
        h = mix(h, whole ? 1 : 0);
        if (whole) {
            h = mixPositions(h);
        }
        return mix(h, savedCount);
    }

    // ---- what the methods above share

    private int fail(int code) {
        int slot = OUT_OF_RANGE - code;
        if (slot >= 0 && slot < ERROR_CODES) {
            errors[slot]++;
        }
        return code;
    }

    private boolean isVertex(int v) {
        return v >= 0 && v < graph.vertexCount;
    }

    private boolean isEnd(int v, int end) {
        return isVertex(v) && end >= 0 && end < ends.count[v];
    }

    private static boolean isShift(int value) {
        return value >= -MAX_SHIFT && value <= MAX_SHIFT;
    }

    private static boolean isCell(int value) {
        return value >= -MAX_CELL && value <= MAX_CELL;
    }

    private boolean isOnePiece() {
        component.explore(graph, 0);
        return component.isWhole(graph);
    }

    /** Answers 0 if vertex v has a coordinate for this axis, and else the error code. */
    private int placementTrouble(int v, int axis) {
        if (!isVertex(v) || axis < 0 || axis > 1) {
            return OUT_OF_RANGE;
        }
        return isOnePiece() ? 0 : NOT_CONNECTED;
    }

    private void walkAround(int v, int limit, int goal) {
        search.forget();
        search.mark(search.nodeAt(v, 0, 0), 0);
        search.walk(ends, limit, goal);
    }

    /** Takes the draft as the graph if its shifts are in range, and tells how many have changed. */
    private int commitShifts() {
        if (!draft.hasShiftsInRange()) {
            return fail(TOO_FAR);
        }
        int changed = draft.shiftsUnlike(graph);
        commitDraft();
        return changed;
    }

    private void commitDraft() {
        saveGraph();
        graph.copyFrom(draft);
        ends.listAll(graph);
    }

    private void saveGraph() {
        if (savedCount == MAX_SAVED) {
            Graph oldest = saved[0];
            for (int k = 1; k < MAX_SAVED; k++) {
                saved[k - 1] = saved[k];
            }
            saved[MAX_SAVED - 1] = oldest;
            savedCount--;
        }
        saved[savedCount].copyFrom(graph);
        savedCount++;
    }

    private static long mix(long h, long value) {
        return 31 * h + value;
    }

    private long mixGraph(long start) {
        long h = mix(start, graph.vertexCount);
        h = mix(h, graph.edgeCount);
        for (int e = 0; e < graph.edgeCount; e++) {
            h = mix(h, graph.from[e]);
            h = mix(h, graph.to[e]);
            h = mix(h, graph.shiftX[e]);
            h = mix(h, graph.shiftY[e]);
        }
        return h;
    }

    private long mixSurroundings(long start, int v) {
        long h = mix(start, ends.count[v]);
        walkAround(v, DIGEST_ORDERS, NONE);
        for (int n = 1; n <= DIGEST_ORDERS; n++) {
            h = mix(h, search.nodesAfter(n));
        }
        component.explore(graph, v);
        h = mix(h, component.latticeRank());
        return mix(h, component.latticeIndex());
    }

    private long mixPositions(long start) {
        long h = start;
        placement.solve(graph);
        for (int v = 0; v < graph.vertexCount; v++) {
            for (int axis = 0; axis < 2; axis++) {
                h = mix(h, placement.top(v, axis));
                h = mix(h, placement.bottom(v, axis));
            }
        }
        return h;
    }

    /**
     * The bits of a float that is 0 or of ordinary size, as Float.floatToIntBits gives them; that
     * function is not among those that LANGUAGE.md leaves.
     */
    private static int floatBits(float value) {
        if (value == 0) {
            return 0;
        }
        float rest = value < 0 ? -value : value;
        int exponent = 127;
        for (; rest >= 2 && exponent < 254; exponent++) {
            rest = rest / 2;
        }
        for (; rest < 1 && exponent > 1; exponent--) {
            rest = rest * 2;
        }
        int fraction = (int) (rest * (1 << 23)) - (1 << 23);
        return (value < 0 ? 1 << 31 : 0) | exponent << 23 | fraction;
    }

    private static long greatestDivisor(long a, long b) {
        long large = a < 0 ? -a : a;
        long small = b < 0 ? -b : b;
        // Euclid's algorithm needs fewer than 100 steps for any two longs.
        for (int k = 0; k < 100 && small != 0; k++) {
            long rest = large % small;
            large = small;
            small = rest;
        }
        return large;
    }

    /** Vertices and edges with shifts: all that undo brings back. */
    private static final class Graph {
        int vertexCount = 1;
        int edgeCount = 0;
        final int[] from = new int[MAX_EDGES];
        final int[] to = new int[MAX_EDGES];
        final int[] shiftX = new int[MAX_EDGES];
        final int[] shiftY = new int[MAX_EDGES];

        void clear(int n) {
            vertexCount = n;
            edgeCount = 0;
        }

        void copyFrom(Graph other) {
            clear(other.vertexCount);
            for (int e = 0; e < other.edgeCount; e++) {
                append(other.from[e], other.to[e], other.shiftX[e], other.shiftY[e]);
            }
        }

        void append(int a, int b, int x, int y) {
            if (edgeCount < MAX_EDGES) {
                setEdge(edgeCount, a, b, x, y);
                edgeCount++;
            }
        }

        private void setEdge(int e, int a, int b, int x, int y) {
            from[e] = a;
            to[e] = b;
            shiftX[e] = x;
            shiftY[e] = y;
        }

        void dropEdge(int edge) {
            for (int e = edge + 1; e < edgeCount; e++) {
                setEdge(e - 1, from[e], to[e], shiftX[e], shiftY[e]);
            }
            edgeCount--;
        }

        int edgeBetween(int a, int b, int x, int y) {
            for (int e = 0; e < edgeCount; e++) {
                if (isStored(e, a, b, x, y) || isStored(e, b, a, -x, -y)) {
                    return e;
                }
            }
            return NONE;
        }

        private boolean isStored(int e, int a, int b, int x, int y) {
            return from[e] == a && to[e] == b && shiftX[e] == x && shiftY[e] == y;
        }

        void renameNodes(int v, int x, int y) {
            for (int e = 0; e < edgeCount; e++) {
                if (from[e] == v) {
                    shiftX[e] -= x;
                    shiftY[e] -= y;
                }
                if (to[e] == v) {
                    shiftX[e] += x;
                    shiftY[e] += y;
                }
            }
        }

        void turnShifts(int kind) {
            for (int e = 0; e < edgeCount; e++) {
                int x = shiftX[e];
                int y = shiftY[e];
                switch (kind) {
                    case 0:
                        shiftX[e] = y;
                        shiftY[e] = x;
                        break;
                    case 1:
                        shiftX[e] = x + y;
                        break;
                    case 2:
                        shiftX[e] = x - y;
                        break;
                    default:
                        shiftX[e] = -x;
                        break;
                }
            }
        }

        boolean hasShiftsInRange() {
            for (int e = 0; e < edgeCount; e++) {
                if (!isShift(shiftX[e]) || !isShift(shiftY[e])) {
                    return false;
                }
            }
            return true;
        }

        /** The number of edges whose shift differs from that of the other's edge of this number. */
        int shiftsUnlike(Graph other) {
            int unlike = 0;
            for (int e = 0; e < edgeCount && e < other.edgeCount; e++) {
                if (shiftX[e] != other.shiftX[e] || shiftY[e] != other.shiftY[e]) {
                    unlike++;
                }
            }
            return unlike;
        }
    }

    /** The ends of all vertices in their order: where each leads, and by what shift. */
    private static final class Ends {
        final int[] count = new int[MAX_VERTICES];
        final int[][] target = new int[MAX_VERTICES][2 * MAX_EDGES];
        final int[][] stepX = new int[MAX_VERTICES][2 * MAX_EDGES];
        final int[][] stepY = new int[MAX_VERTICES][2 * MAX_EDGES];

        void listAll(Graph graph) {
            for (int v = 0; v < MAX_VERTICES; v++) {
                count[v] = 0;
            }
            for (int e = 0; e < graph.edgeCount; e++) {
                put(graph.from[e], graph.to[e], graph.shiftX[e], graph.shiftY[e]);
                put(graph.to[e], graph.from[e], -graph.shiftX[e], -graph.shiftY[e]);
            }
        }

        private void put(int v, int w, int x, int y) {
            int end = count[v];
            if (end < 2 * MAX_EDGES) {
                target[v][end] = w;
                stepX[v][end] = x;
                stepY[v][end] = y;
                count[v]++;
            }
        }
    }

    /**
     * Walks the net in all directions at once, one step a round, over the cells from -REACH to
     * REACH. Eight steps from cell (0, 0) stay inside them. So does a way of ten steps between two
     * neighbours of a node in cell (0, 0): each of its nodes is at most five steps from one of the
     * two. Thus no answer depends on what lies outside.
     */
    private static final class Search {
        private static final int REACH = MAX_STEPS * MAX_SHIFT;
        private static final int WIDTH = 2 * REACH + 1;
        private static final int NODES = WIDTH * WIDTH * MAX_VERTICES;

        private final int[] stepsOf = new int[NODES];
        private final int[] queue = new int[NODES];
        private int first = 0;
        private int tail = 0;

        Search() {
            for (int node = 0; node < NODES; node++) {
                stepsOf[node] = NONE;
            }
        }

        /** The number of node (v, i, j), or NONE if its cell is outside. */
        int nodeAt(int v, int i, int j) {
            if (i < -REACH || i > REACH || j < -REACH || j > REACH) {
                return NONE;
            }
            return ((i + REACH) * WIDTH + j + REACH) * MAX_VERTICES + v;
        }

        int stepsTo(int node) {
            return node < 0 || node >= NODES ? NONE : stepsOf[node];
        }

        // Only what the last walk has marked is wiped, for most walks are short.
        void forget() {
            for (int k = 0; k < tail; k++) {
                stepsOf[queue[k]] = NONE;
            }
            first = 0;
            tail = 0;
        }

        void mark(int node, int steps) {
            if (node >= 0 && node < NODES && stepsOf[node] == NONE && tail < NODES) {
                stepsOf[node] = steps;
                queue[tail] = node;
                tail++;
            }
        }

        /** Marks a node that the walk shall neither enter nor leave. */
        void close(int node) {
            mark(node, 0);
            first = tail;
        }

        void walk(Ends ends, int limit, int goal) {
            for (int k = first; k < NODES && k < tail; k++) {
                int node = queue[k];
                if (stepsOf[node] >= limit || stepsTo(goal) != NONE) {
                    return;
                }
                leave(ends, node);
            }
        }

        private void leave(Ends ends, int node) {
            int v = node % MAX_VERTICES;
            int cell = node / MAX_VERTICES;
            int i = cell / WIDTH - REACH;
            int j = cell % WIDTH - REACH;
            int steps = stepsOf[node] + 1;
            int[] target = ends.target[v];
            int[] stepX = ends.stepX[v];
            int[] stepY = ends.stepY[v];
            for (int end = 0; end < ends.count[v]; end++) {
                mark(nodeAt(target[end], i + stepX[end], j + stepY[end]), steps);
            }
        }

        int nodesAfter(int steps) {
            int nodes = 0;
            for (int k = first; k < tail; k++) {
                if (stepsOf[queue[k]] == steps) {
                    nodes++;
                }
            }
            return nodes;
        }
    }

    /**
     * The vertices that are reached from one, and the period lattice there. Each reached vertex has
     * one node, its cell in (cellX, cellY), that a tree of edges joins to the start's node in cell
     * (0, 0). Each edge then closes a cycle whose shift is a period, and these generate the lattice.
     */
    private static final class Component {
        private final boolean[] reached = new boolean[MAX_VERTICES];
        private final int[] cellX = new int[MAX_VERTICES];
        private final int[] cellY = new int[MAX_VERTICES];
        private final int[] periodX = new int[MAX_EDGES];
        private final int[] periodY = new int[MAX_EDGES];
        private int periods = 0;

        void explore(Graph graph, int start) {
            for (int v = 0; v < MAX_VERTICES; v++) {
                reached[v] = false;
            }
            reach(start, 0, 0);
            // Each round reaches at least one vertex more, as long as there is one.
            for (int round = 1; round < graph.vertexCount; round++) {
                followEdges(graph);
            }
            listPeriods(graph);
        }

        private void reach(int v, int x, int y) {
            reached[v] = true;
            cellX[v] = x;
            cellY[v] = y;
        }

        private void followEdges(Graph graph) {
            for (int e = 0; e < graph.edgeCount; e++) {
                int a = graph.from[e];
                int b = graph.to[e];
                if (reached[a] && !reached[b]) {
                    reach(b, cellX[a] + graph.shiftX[e], cellY[a] + graph.shiftY[e]);
                } else if (reached[b] && !reached[a]) {
                    reach(a, cellX[b] - graph.shiftX[e], cellY[b] - graph.shiftY[e]);
                }
            }
        }

        private void listPeriods(Graph graph) {
            periods = 0;
            for (int e = 0; e < graph.edgeCount; e++) {
                int a = graph.from[e];
                int b = graph.to[e];
                if (reached[a] && reached[b]) {
                    periodX[periods] = cellX[a] + graph.shiftX[e] - cellX[b];
                    periodY[periods] = cellY[a] + graph.shiftY[e] - cellY[b];
                    periods++;
                }
            }
        }

        boolean isWhole(Graph graph) {
            for (int v = 0; v < graph.vertexCount; v++) {
                if (!reached[v]) {
                    return false;
                }
            }
            return true;
        }

        int latticeRank() {
            if (commonArea() != 0) {
                return 2;
            }
            for (int k = 0; k < periods; k++) {
                if (periodX[k] != 0 || periodY[k] != 0) {
                    return 1;
                }
            }
            return 0;
        }

        int latticeIndex() {
            long area = commonArea();
            return area == 0 ? NONE : (int) area;
        }

        /** The greatest divisor of the determinants of all pairs: 0 unless the rank is 2. */
        private long commonArea() {
            long area = 0;
            for (int k = 0; k < periods; k++) {
                for (int m = k + 1; m < periods; m++) {
                    long pair = (long) periodX[k] * periodY[m] - (long) periodX[m] * periodY[k];
                    area = greatestDivisor(area, pair);
                }
            }
            return area;
        }
    }

    /**
     * Barycentric positions of a connected graph, as whole numbers over one scale. The rows are the
     * conditions of the vertices from 1 on (that of vertex 0 follows from these): the coefficients
     * of the unknown positions, and then what their sum must be, for either axis.
     */
    private static final class Placement {
        private final long[][] rows = new long[MAX_VERTICES - 1][MAX_VERTICES + 1];
        private int unknowns = 0;
        private long scale = 1;

        void solve(Graph graph) {
            unknowns = graph.vertexCount - 1;
            clearRows();
            for (int e = 0; e < graph.edgeCount; e++) {
                addEnd(graph.from[e], graph.to[e], graph.shiftX[e], graph.shiftY[e]);
                addEnd(graph.to[e], graph.from[e], -graph.shiftX[e], -graph.shiftY[e]);
            }
            scale = 1;
            for (int k = 0; k < unknowns; k++) {
                eliminate(k);
            }
        }

        private void clearRows() {
            for (int r = 0; r < unknowns; r++) {
                for (int c = 0; c < unknowns + 2; c++) {
                    rows[r][c] = 0;
                }
            }
        }

        private void addEnd(int v, int w, int x, int y) {
            if (v > 0) {
                rows[v - 1][v - 1]++;
                if (w > 0) {
                    rows[v - 1][w - 1]--;
                }
                rows[v - 1][unknowns] += x;
                rows[v - 1][unknowns + 1] += y;
            }
        }

        /**
         * One step of elimination without fractions (Bareiss): the scale so far divides each new
         * number, and the pivot is the new scale. In a connected graph no pivot is 0: this one
         * counts the forests in which each of the vertices 1 to k + 1 hangs on one of the others.
         */
        private void eliminate(int k) {
            long pivot = rows[k][k];
            if (pivot == 0 || scale == 0) {
                return;
            }
            for (int r = 0; r < unknowns; r++) {
                if (r != k) {
                    reduceRow(r, k, pivot);
                }
            }
            scale = pivot;
        }

        private void reduceRow(int r, int k, long pivot) {
            long factor = rows[r][k];
            for (int c = 0; c < unknowns + 2; c++) {
                rows[r][c] = (pivot * rows[r][c] - factor * rows[k][c]) / scale;
            }
        }

        private long unreduced(int v, int axis) {
            return v < 1 ? 0 : rows[v - 1][unknowns + axis];
        }

        long top(int v, int axis) {
            return lowered(unreduced(v, axis), v, axis);
        }

        long bottom(int v, int axis) {
            return lowered(scale, v, axis);
        }

        private long lowered(long value, int v, int axis) {
            long divisor = greatestDivisor(unreduced(v, axis), scale);
            return divisor == 0 ? value : value / divisor;
        }

        boolean meet(int v, int w) {
            return isWholeApart(v, w, 0) && isWholeApart(v, w, 1);
        }

        private boolean isWholeApart(int v, int w, int axis) {
            return scale != 0 && (unreduced(v, axis) - unreduced(w, axis)) % scale == 0;
        }
    }
}
