import java.util.ArrayList;
import java.util.List;

/** Nets that several tests use, and what they look at in common. */
final class Nets {
    /** Numbers that are out of each range. */
    static final int[] FAR = {Integer.MIN_VALUE, Integer.MIN_VALUE + 1, -1000, 1000,
        Integer.MAX_VALUE};

    private Nets() {
    }

    static PeriodicNet of(int vertices, int[]... edges) {
        PeriodicNet net = new PeriodicNet();
        net.reset(vertices);
        return with(net, edges);
    }

    static PeriodicNet with(PeriodicNet net, int[]... edges) {
        for (int[] e : edges) {
            int number = net.edges();
            if (net.addEdge(e[0], e[1], e[2], e[3]) != number) {
                throw new IllegalStateException("an edge was not added as number " + number);
            }
        }
        return net;
    }

    static int[] edge(int a, int b, int x, int y) {
        return new int[] {a, b, x, y};
    }

    static PeriodicNet square() {
        return of(1, edge(0, 0, 1, 0), edge(0, 0, 0, 1));
    }

    static PeriodicNet honeycomb() {
        return of(2, edge(0, 1, 0, 0), edge(0, 1, -1, 0), edge(0, 1, 0, -1));
    }

    /**
     * Edges with some of the 25 shifts, (-2, -2) being number 0 and (2, 2) number 24. Number 12 is
     * (0, 0), and those after it are the opposites of those before it.
     */
    static int[][] edgesOfAllShifts(int a, int b, int first, int count) {
        int[][] edges = new int[count][];
        for (int k = 0; k < count; k++) {
            edges[k] = edge(a, b, (first + k) / 5 - 2, (first + k) % 5 - 2);
        }
        return edges;
    }

    /** Two vertices and 12 edges. */
    static PeriodicNet full() {
        return of(2, edgesOfAllShifts(0, 1, 0, 12));
    }

    /** One vertex and this many edges from it to itself. */
    static PeriodicNet loops(int count) {
        return of(1, edgesOfAllShifts(0, 0, 0, count));
    }

    /** Edges with this shift from each vertex to the next. */
    static int[][] rowEdges(int vertices, int x, int y) {
        int[][] edges = new int[vertices - 1][];
        for (int v = 0; v + 1 < vertices; v++) {
            edges[v] = edge(v, v + 1, x, y);
        }
        return edges;
    }

    static PeriodicNet row(int vertices) {
        return of(vertices, rowEdges(vertices, 0, 0));
    }

    /** The number of vertices and of edges, each edge in both directions, and the degrees. */
    static void dueGraph(Check check, PeriodicNet net, int vertices, int[]... edges) {
        int[] degree = new int[vertices];
        check.due("vertices()", net.vertices(), vertices);
        check.due("edges()", net.edges(), edges.length);
        for (int k = 0; k < edges.length; k++) {
            int[] e = edges[k];
            check.due("findEdge of edge " + k, net.findEdge(e[0], e[1], e[2], e[3]), k);
            check.due("findEdge of edge " + k + " from its end",
                net.findEdge(e[1], e[0], -e[2], -e[3]), k);
            degree[e[0]]++;
            degree[e[1]]++;
        }
        for (int v = 0; v < vertices; v++) {
            check.due("degree(" + v + ")", net.degree(v), degree[v]);
        }
    }

    /** All that digest tells, the edges as they are stored among it. */
    static void dueState(Check check, PeriodicNet net, int saved, int[]... edges) {
        check.due("digest()", net.digest(), digestOf(net, saved, edges));
    }

    /** The digest by the words of promise 25; its edges are told, for no method tells them. */
    static long digestOf(PeriodicNet net, int saved, int[]... edges) {
        long h = 2699;
        for (int code = -2; code >= -7; code--) {
            h = 31 * h + net.errorCount(code);
        }
        h = 31 * (31 * h + net.vertices()) + edges.length;
        for (int[] edge : edges) {
            for (int value : edge) {
                h = 31 * h + value;
            }
        }
        for (int v = 0; v < net.vertices(); v++) {
            h = 31 * h + net.degree(v);
            for (int n = 1; n <= 4; n++) {
                h = 31 * h + net.coordination(v, n);
            }
            h = 31 * (31 * h + net.rank(v)) + net.index(v);
        }
        int connected = net.isConnected();
        h = 31 * h + connected;
        for (int v = 0; v < net.vertices() && connected == 1; v++) {
            h = 31 * (31 * h + net.numerator(v, 0)) + net.denominator(v, 0);
            h = 31 * (31 * h + net.numerator(v, 1)) + net.denominator(v, 1);
        }
        return 31 * h + saved;
    }

    static void dueCounters(Check check, PeriodicNet net, int... counts) {
        for (int k = 0; k < 6; k++) {
            int want = k < counts.length ? counts[k] : 0;
            check.due("errorCount(" + (-2 - k) + ")", net.errorCount(-2 - k), want);
        }
    }

    static void duePosition(Check check, PeriodicNet net, int v, long[] fractions) {
        for (int axis = 0; axis < 2; axis++) {
            String of = "(" + v + ", " + axis + ")";
            check.due("numerator" + of, net.numerator(v, axis), fractions[2 * axis]);
            check.due("denominator" + of, net.denominator(v, axis), fractions[2 * axis + 1]);
        }
    }

    static long[] at(long topX, long bottomX, long topY, long bottomY) {
        return new long[] {topX, bottomX, topY, bottomY};
    }

    /** What the methods that only ask answer about a connected net; at most 150 calls. */
    static long[] answers(PeriodicNet net) {
        List<Long> answers = new ArrayList<>();
        int n = net.vertices();
        for (int v = 0; v < n; v++) {
            answers.add((long) net.degree(v));
            answers.add((long) net.neighbour(v, 0));
            answers.add((long) net.coordination(v, 3));
            answers.add((long) net.distance(v, 0, 1, 1));
            answers.add((long) net.rank(v));
            answers.add((long) net.index(v));
            answers.add((long) net.ring(v, 0, 1));
            for (int axis = 0; axis < 2; axis++) {
                answers.add(net.numerator(v, axis));
                answers.add(net.denominator(v, axis));
                answers.add((long) net.positionBits(v, axis));
            }
            answers.add((long) net.collide(v, (v + 1) % n));
        }
        answers.add((long) net.edges());
        answers.add((long) net.findEdge(0, 1, 0, 1));
        answers.add((long) net.isConnected());
        answers.add((long) net.collisions());
        return answers.stream().mapToLong(Long::longValue).toArray();
    }

    static void dueAnswers(Check check, PeriodicNet net, long[] want) {
        long[] got = answers(net);
        check.due("the number of answers", got.length, want.length);
        for (int k = 0; k < got.length && k < want.length; k++) {
            check.due("answer " + k + " of all that only ask", got[k], want[k]);
        }
    }
}
