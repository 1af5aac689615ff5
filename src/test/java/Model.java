import java.math.BigInteger;
import java.util.ArrayDeque;
import java.util.ArrayList;
import java.util.HashMap;
import java.util.HashSet;
import java.util.List;
import java.util.Map;
import java.util.Set;

/**
 * A slow second program for ../shared/DOC.md, written from its words and without the ways that
 * PeriodicNet goes: nodes are texts in a map, rings are looked for way by way, the lattice is kept
 * as a triangular basis, and positions are solved in fractions of big numbers.
 */
final class Model {
    private record Edge(int a, int b, int x, int y) {
    }

    private record End(int to, int x, int y) {
    }

    private record Node(int v, int i, int j) {
    }

    private record State(int vertices, List<Edge> edges) {
    }

    private record Fraction(BigInteger top, BigInteger bottom) {
        static Fraction of(long value) {
            return new Fraction(BigInteger.valueOf(value), BigInteger.ONE);
        }

        private static Fraction lowest(BigInteger top, BigInteger bottom) {
            BigInteger divisor = top.gcd(bottom);
            if (bottom.signum() < 0) {
                divisor = divisor.negate();
            }
            return new Fraction(top.divide(divisor), bottom.divide(divisor));
        }

        Fraction minus(Fraction other) {
            return lowest(top.multiply(other.bottom).subtract(other.top.multiply(bottom)),
                bottom.multiply(other.bottom));
        }

        Fraction times(Fraction other) {
            return lowest(top.multiply(other.top), bottom.multiply(other.bottom));
        }

        Fraction over(Fraction other) {
            return lowest(top.multiply(other.bottom), bottom.multiply(other.top));
        }
    }

    private State now = new State(1, List.of());
    private final ArrayDeque<State> saved = new ArrayDeque<>();
    private final long[] errors = new long[6];

    // ---- the quotient graph

    private long error(int code) {
        errors[-2 - code]++;
        return code;
    }

    private boolean noVertex(int v) {
        return v < 0 || v >= now.vertices;
    }

    private static boolean outside(int value, int limit) {
        return value < -limit || value > limit;
    }

    private void become(int vertices, List<Edge> edges) {
        saved.addLast(now);
        if (saved.size() > 5) {
            saved.removeFirst();
        }
        now = new State(vertices, edges);
    }

    long reset(int n) {
        if (n < 1 || n > 6) {
            return error(-2);
        }
        long before = now.vertices;
        become(n, List.of());
        return before;
    }

    private int find(int a, int b, int x, int y) {
        int forward = now.edges.indexOf(new Edge(a, b, x, y));
        int backward = now.edges.indexOf(new Edge(b, a, -x, -y));
        return Math.max(forward, backward);
    }

    long addEdge(int a, int b, int x, int y) {
        boolean still = a == b && x == 0 && y == 0;
        if (noVertex(a) || noVertex(b) || outside(x, 2) || outside(y, 2) || still) {
            return error(-2);
        }
        if (find(a, b, x, y) >= 0) {
            return error(-3);
        }
        if (now.edges.size() == 12) {
            return error(-4);
        }
        List<Edge> edges = new ArrayList<>(now.edges);
        edges.add(new Edge(a, b, x, y));
        become(now.vertices, edges);
        return edges.size() - 1;
    }

    long removeEdge(int edge) {
        if (edge < 0 || edge >= now.edges.size()) {
            return error(-2);
        }
        List<Edge> edges = new ArrayList<>(now.edges);
        edges.remove(edge);
        become(now.vertices, edges);
        return edges.size();
    }

    long findEdge(int a, int b, int x, int y) {
        return noVertex(a) || noVertex(b) ? error(-2) : find(a, b, x, y);
    }

    private long becomeShifted(List<Edge> edges) {
        long changed = 0;
        for (int e = 0; e < edges.size(); e++) {
            if (outside(edges.get(e).x, 2) || outside(edges.get(e).y, 2)) {
                return error(-5);
            }
            changed += edges.get(e).equals(now.edges.get(e)) ? 0 : 1;
        }
        become(now.vertices, edges);
        return changed;
    }

    long moveVertex(int v, int x, int y) {
        if (noVertex(v) || outside(x, 2) || outside(y, 2)) {
            return error(-2);
        }
        List<Edge> edges = new ArrayList<>();
        for (Edge e : now.edges) {
            int times = (e.b == v ? 1 : 0) - (e.a == v ? 1 : 0);
            edges.add(new Edge(e.a, e.b, e.x + times * x, e.y + times * y));
        }
        return becomeShifted(edges);
    }

    long changeBasis(int kind) {
        if (kind < 0 || kind > 3) {
            return error(-2);
        }
        int[][] matrix = new int[][] {{0, 1, 1, 0}, {1, 1, 0, 1}, {1, -1, 0, 1}, {-1, 0, 0, 1}};
        int[] m = matrix[kind];
        List<Edge> edges = new ArrayList<>();
        for (Edge e : now.edges) {
            edges.add(new Edge(e.a, e.b, m[0] * e.x + m[1] * e.y, m[2] * e.x + m[3] * e.y));
        }
        return becomeShifted(edges);
    }

    long vertices() {
        return now.vertices;
    }

    long edges() {
        return now.edges.size();
    }

    private List<End> ends(int v) {
        List<End> ends = new ArrayList<>();
        for (Edge e : now.edges) {
            if (e.a == v) {
                ends.add(new End(e.b, e.x, e.y));
            }
            if (e.b == v) {
                ends.add(new End(e.a, -e.x, -e.y));
            }
        }
        return ends;
    }

    long degree(int v) {
        return noVertex(v) ? error(-2) : ends(v).size();
    }

    long neighbour(int v, int end) {
        if (noVertex(v) || end < 0 || end >= ends(v).size()) {
            return error(-2);
        }
        return ends(v).get(end).to;
    }

    // ---- the net

    private List<Node> around(Node node) {
        List<Node> nodes = new ArrayList<>();
        for (End end : ends(node.v)) {
            nodes.add(new Node(end.to, node.i + end.x, node.j + end.y));
        }
        return nodes;
    }

    /** The distances of all nodes that are at most this many steps from one, past another. */
    private Map<Node, Integer> distances(Node from, int steps, Node past) {
        Map<Node, Integer> found = new HashMap<>();
        List<Node> rim = List.of(from);
        found.put(from, 0);
        for (int n = 1; n <= steps; n++) {
            List<Node> next = new ArrayList<>();
            for (Node node : rim) {
                for (Node other : around(node)) {
                    if (!other.equals(past) && found.putIfAbsent(other, n) == null) {
                        next.add(other);
                    }
                }
            }
            rim = next;
        }
        return found;
    }

    private long count(int v, int n) {
        long count = 0;
        for (int steps : distances(new Node(v, 0, 0), n, null).values()) {
            count += steps == n ? 1 : 0;
        }
        return count;
    }

    long coordination(int v, int n) {
        return noVertex(v) || n < 0 || n > 8 ? error(-2) : count(v, n);
    }

    long distance(int v, int w, int i, int j) {
        if (noVertex(v) || noVertex(w) || outside(i, 8) || outside(j, 8)) {
            return error(-2);
        }
        return distances(new Node(v, 0, 0), 8, null).getOrDefault(new Node(w, i, j), -1);
    }

    /** A basis {a, b}, {0, c} of the periods at v, as {a, b, c}. */
    private long[] lattice(int v) {
        Map<Integer, Node> seen = new HashMap<>();
        ArrayDeque<Node> open = new ArrayDeque<>();
        open.push(new Node(v, 0, 0));
        seen.put(v, new Node(v, 0, 0));
        long[] basis = new long[3];
        while (!open.isEmpty()) {
            for (Node other : around(open.pop())) {
                Node known = seen.putIfAbsent(other.v, other);
                if (known == null) {
                    open.push(other);
                } else {
                    addPeriod(basis, other.i - known.i, other.j - known.j);
                }
            }
        }
        return basis;
    }

    private static void addPeriod(long[] basis, long x, long y) {
        while (x != 0) {
            long times = Math.floorDiv(basis[0], x);
            long restX = basis[0] - times * x;
            long restY = basis[1] - times * y;
            basis[0] = x;
            basis[1] = y;
            x = restX;
            y = restY;
        }
        basis[2] = BigInteger.valueOf(basis[2]).gcd(BigInteger.valueOf(y)).longValue();
    }

    private long rankOf(int v) {
        long[] basis = lattice(v);
        return (basis[0] != 0 || basis[1] != 0 ? 1 : 0) + (basis[2] != 0 ? 1 : 0);
    }

    private long indexOf(int v) {
        long[] basis = lattice(v);
        return rankOf(v) < 2 ? -1 : Math.abs(basis[0] * basis[2]);
    }

    long rank(int v) {
        return noVertex(v) ? error(-2) : rankOf(v);
    }

    long index(int v) {
        return noVertex(v) ? error(-2) : indexOf(v);
    }

    private boolean connected() {
        Set<Integer> reached = new HashSet<>();
        ArrayDeque<Integer> open = new ArrayDeque<>();
        open.push(0);
        reached.add(0);
        while (!open.isEmpty()) {
            for (End end : ends(open.pop())) {
                if (reached.add(end.to)) {
                    open.push(end.to);
                }
            }
        }
        return reached.size() == now.vertices;
    }

    long isConnected() {
        return connected() ? 1 : 0;
    }

    long ring(int v, int p, int q) {
        if (noVertex(v)) {
            return error(-2);
        }
        List<Node> around = around(new Node(v, 0, 0));
        if (p < 0 || q < 0 || p >= around.size() || q >= around.size() || p == q) {
            return error(-2);
        }
        int most = 0;
        for (int w = 0; w < now.vertices; w++) {
            most = Math.max(most, ends(w).size());
        }
        Node start = new Node(v, 0, 0);
        if (most > 4) {
            Integer steps = distances(around.get(p), 10, start).get(around.get(q));
            return steps == null ? -1 : steps + 2;
        }
        List<Node> way = new ArrayList<>(List.of(start, around.get(p)));
        for (int nodes = 3; nodes <= 12; nodes++) {
            if (closes(way, nodes, around.get(q))) {
                return nodes;
            }
        }
        return -1;
    }

    /** Whether the way can be made one of so many nodes, none repeated, that ends at the last. */
    private boolean closes(List<Node> way, int nodes, Node last) {
        Node here = way.get(way.size() - 1);
        if (way.size() == nodes) {
            return here.equals(last);
        }
        if (here.equals(last)) {
            return false;
        }
        for (Node next : around(here)) {
            if (!way.contains(next)) {
                way.add(next);
                boolean found = closes(way, nodes, last);
                way.remove(way.size() - 1);
                if (found) {
                    return true;
                }
            }
        }
        return false;
    }

    // ---- placement

    /** The positions along an axis, by the condition at each vertex but 0, which is at 0. */
    private Fraction[] positions(int axis) {
        int n = now.vertices;
        Fraction[][] rows = new Fraction[n][n + 1];
        for (int v = 0; v < n; v++) {
            long[] row = new long[n + 1];
            if (v == 0) {
                row[0] = 1;
            } else {
                for (End end : ends(v)) {
                    row[end.to]++;
                    row[v]--;
                    row[n] -= axis == 0 ? end.x : end.y;
                }
            }
            for (int c = 0; c <= n; c++) {
                rows[v][c] = Fraction.of(row[c]);
            }
        }
        for (int k = 0; k < n; k++) {
            clearColumn(rows, k);
        }
        Fraction[] positions = new Fraction[n];
        for (int v = 0; v < n; v++) {
            positions[v] = rows[v][n].over(rows[v][v]);
        }
        return positions;
    }

    private static void clearColumn(Fraction[][] rows, int k) {
        int pivot = k;
        while (rows[pivot][k].top.signum() == 0) {
            pivot++;
        }
        Fraction[] swap = rows[k];
        rows[k] = rows[pivot];
        rows[pivot] = swap;
        for (int r = 0; r < rows.length; r++) {
            if (r != k) {
                Fraction factor = rows[r][k].over(rows[k][k]);
                for (int c = 0; c < rows[r].length; c++) {
                    rows[r][c] = rows[r][c].minus(factor.times(rows[k][c]));
                }
            }
        }
    }

    private long placementError(int v, int axis) {
        if (noVertex(v) || axis < 0 || axis > 1) {
            return error(-2);
        }
        return connected() ? 0 : error(-6);
    }

    long numerator(int v, int axis) {
        long wrong = placementError(v, axis);
        return wrong != 0 ? wrong : positions(axis)[v].top.longValueExact();
    }

    long denominator(int v, int axis) {
        long wrong = placementError(v, axis);
        return wrong != 0 ? wrong : positions(axis)[v].bottom.longValueExact();
    }

    long positionBits(int v, int axis) {
        long wrong = placementError(v, axis);
        if (wrong != 0) {
            return wrong;
        }
        Fraction at = positions(axis)[v];
        return Float.floatToIntBits((float) at.top.longValue() / (float) at.bottom.longValue());
    }

    private boolean colliding(int v, int w) {
        for (int axis = 0; axis < 2; axis++) {
            Fraction[] at = positions(axis);
            if (!at[v].minus(at[w]).bottom.equals(BigInteger.ONE)) {
                return false;
            }
        }
        return true;
    }

    long collide(int v, int w) {
        if (noVertex(v) || noVertex(w) || v == w) {
            return error(-2);
        }
        if (!connected()) {
            return error(-6);
        }
        return colliding(v, w) ? 1 : 0;
    }

    long collisions() {
        if (!connected()) {
            return error(-6);
        }
        long ordered = 0;
        for (int v = 0; v < now.vertices; v++) {
            for (int w = 0; w < now.vertices; w++) {
                ordered += v != w && colliding(v, w) ? 1 : 0;
            }
        }
        return ordered / 2;
    }

    // ---- state

    long undo() {
        if (saved.isEmpty()) {
            return error(-7);
        }
        now = saved.removeLast();
        return saved.size();
    }

    long errorCount(int code) {
        return code < -7 || code > -2 ? error(-2) : errors[-2 - code];
    }

    long digest() {
        List<Long> values = new ArrayList<>();
        for (long count : errors) {
            values.add(count);
        }
        values.add(vertices());
        values.add(edges());
        for (Edge e : now.edges) {
            values.addAll(List.of((long) e.a, (long) e.b, (long) e.x, (long) e.y));
        }
        for (int v = 0; v < now.vertices; v++) {
            values.add((long) ends(v).size());
            for (int n = 1; n <= 4; n++) {
                values.add(count(v, n));
            }
            values.add(rankOf(v));
            values.add(indexOf(v));
        }
        values.add(isConnected());
        for (int v = 0; v < now.vertices && connected(); v++) {
            for (int axis = 0; axis < 2; axis++) {
                values.add(positions(axis)[v].top.longValue());
                values.add(positions(axis)[v].bottom.longValue());
            }
        }
        values.add((long) saved.size());
        long h = 2699;
        for (long value : values) {
            h = 31 * h + value;
        }
        return h;
    }
}
