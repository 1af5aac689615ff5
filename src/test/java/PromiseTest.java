/** One method for each promise of ../shared/DOC.md, with answers worked out by hand. */
public final class PromiseTest {
    private static final int[] FAR = {Integer.MIN_VALUE, -1000, 1000, Integer.MAX_VALUE};
    private static final Check CHECK = new Check("PromiseTest");

    private PromiseTest() {
    }

    private static void due(String call, long got, long want) {
        CHECK.due(call, got, want);
    }

    public static void main(String[] args) {
        examples();
        newObject();
        reset();
        addEdge();
        addEdgeErrors();
        removeEdge();
        findEdge();
        moveVertex();
        moveVertexErrors();
        changeBasis();
        changeBasisErrors();
        verticesAndEdges();
        degreeAndNeighbour();
        coordination();
        distance();
        rankAndIndex();
        isConnected();
        ring();
        ringLimit();
        fractions();
        fractionErrors();
        collide();
        collisions();
        positionBits();
        undo();
        errorCount();
        digest();
        CHECK.end();
    }

    // ---- nets that several promises use

    private static PeriodicNet square() {
        PeriodicNet x = new PeriodicNet();
        x.addEdge(0, 0, 1, 0);
        x.addEdge(0, 0, 0, 1);
        return x;
    }

    private static PeriodicNet honeycomb() {
        PeriodicNet x = new PeriodicNet();
        x.reset(2);
        x.addEdge(0, 1, 0, 0);
        x.addEdge(0, 1, -1, 0);
        x.addEdge(0, 1, 0, -1);
        return x;
    }

    /** The honeycomb with one more vertex on each edge and, if asked, a second one on the last. */
    private static PeriodicNet longHoneycomb(boolean longer) {
        PeriodicNet x = new PeriodicNet();
        x.reset(longer ? 6 : 5);
        x.addEdge(0, 2, 0, 0);
        x.addEdge(0, 3, -1, 0);
        x.addEdge(0, 4, 0, -1);
        x.addEdge(2, 1, 0, 0);
        x.addEdge(3, 1, 0, 0);
        if (longer) {
            x.addEdge(4, 5, 0, 0);
            x.addEdge(5, 1, 0, 0);
        } else {
            x.addEdge(4, 1, 0, 0);
        }
        return x;
    }

    /** Vertices 0 - 1 - 2 in a row without periods, and vertices 3 and 4 with a loop each. */
    private static PeriodicNet pieces() {
        PeriodicNet x = new PeriodicNet();
        x.reset(5);
        x.addEdge(0, 1, 1, 0);
        x.addEdge(2, 1, 0, 2);
        x.addEdge(3, 3, 0, 2);
        x.addEdge(4, 4, 2, 0);
        x.addEdge(4, 4, 1, 2);
        return x;
    }

    private static PeriodicNet full() {
        PeriodicNet x = new PeriodicNet();
        x.reset(2);
        for (int k = 0; k < 12; k++) {
            due("addEdge to the full net", x.addEdge(0, 1, k / 5 - 2, k % 5 - 2), k);
        }
        return x;
    }

    private static void dueErrors(String after, PeriodicNet x, int... counts) {
        for (int k = 0; k < 6; k++) {
            int want = k < counts.length ? counts[k] : 0;
            due("errorCount(" + (-2 - k) + ") after " + after, x.errorCount(-2 - k), want);
        }
    }

    // ---- the promises

    private static void examples() {
        PeriodicNet x = new PeriodicNet();
        due("example 1", x.addEdge(0, 0, 1, 0), 0);
        due("example 1", x.addEdge(0, 0, 0, 1), 1);
        due("example 1", x.coordination(0, 1), 4);
        due("example 1", x.coordination(0, 2), 8);
        due("example 1", x.ring(0, 0, 2), 4);
        due("example 1", x.ring(0, 0, 1), 6);
        due("example 1", x.index(0), 1);
        x = new PeriodicNet();
        due("example 2", x.reset(2), 1);
        due("example 2", x.addEdge(0, 1, 0, 0), 0);
        due("example 2", x.addEdge(0, 1, -1, 0), 1);
        due("example 2", x.addEdge(0, 1, 0, -1), 2);
        due("example 2", x.coordination(0, 2), 6);
        due("example 2", x.numerator(1, 0), 1);
        due("example 2", x.denominator(1, 0), 3);
        due("example 2", x.ring(0, 0, 1), 6);
        x = new PeriodicNet();
        due("example 3", x.reset(2), 1);
        due("example 3", x.addEdge(0, 1, 0, 0), 0);
        due("example 3", x.moveVertex(1, 1, 2), 1);
        due("example 3", x.findEdge(0, 1, 1, 2), 0);
        due("example 3", x.moveVertex(1, 2, 0), -5);
        due("example 3", x.errorCount(-5), 1);
        x = new PeriodicNet();
        due("example 4", x.addEdge(0, 0, 2, 0), 0);
        due("example 4", x.addEdge(0, 0, 0, 2), 1);
        due("example 4", x.addEdge(0, 0, -2, 0), -3);
        due("example 4", x.index(0), 4);
        due("example 4", x.distance(0, 0, 1, 0), -1);
        x = new PeriodicNet();
        due("example 5", x.reset(3), 1);
        due("example 5", x.numerator(1, 0), -6);
        due("example 5", x.addEdge(0, 0, 0, 0), -2);
    }

    private static void newObject() {
        PeriodicNet x = new PeriodicNet();
        due("vertices() of a new object", x.vertices(), 1);
        due("edges() of a new object", x.edges(), 0);
        due("degree(0) of a new object", x.degree(0), 0);
        due("isConnected() of a new object", x.isConnected(), 1);
        dueErrors("new", x);
        due("undo() of a new object", x.undo(), -7);
        PeriodicNet other = new PeriodicNet();
        other.reset(4);
        other.addEdge(0, 1, 0, 0);
        due("vertices() beside another object", x.vertices(), 1);
        due("edges() beside another object", x.edges(), 0);
        due("errorCount(-7) of another object", other.errorCount(-7), 0);
    }

    private static void reset() {
        PeriodicNet x = new PeriodicNet();
        due("reset(6)", x.reset(6), 1);
        due("vertices()", x.vertices(), 6);
        due("addEdge(0, 5, 1, 1)", x.addEdge(0, 5, 1, 1), 0);
        due("reset(0)", x.reset(0), -2);
        due("reset(7)", x.reset(7), -2);
        for (int far : FAR) {
            due("reset(" + far + ")", x.reset(far), -2);
        }
        due("vertices() after errors", x.vertices(), 6);
        due("edges() after errors", x.edges(), 1);
        due("reset(6)", x.reset(6), 6);
        due("edges() after reset(6)", x.edges(), 0);
        due("degree(0) after reset(6)", x.degree(0), 0);
        due("undo()", x.undo(), 2);
        due("findEdge(5, 0, -1, -1) after undo", x.findEdge(5, 0, -1, -1), 0);
        due("reset(1)", x.reset(1), 6);
        due("vertices()", x.vertices(), 1);
        due("degree(1)", x.degree(1), -2);
        dueErrors("reset", x, 7);
    }

    private static void addEdge() {
        PeriodicNet x = new PeriodicNet();
        x.reset(3);
        due("addEdge(0, 1, 2, -2)", x.addEdge(0, 1, 2, -2), 0);
        due("addEdge(0, 1, -2, 2)", x.addEdge(0, 1, -2, 2), 1);
        due("addEdge(1, 0, 0, 0)", x.addEdge(1, 0, 0, 0), 2);
        due("addEdge(0, 1, 0, 0)", x.addEdge(0, 1, 0, 0), -3);
        due("addEdge(1, 0, 0, 0)", x.addEdge(1, 0, 0, 0), -3);
        due("addEdge(1, 0, -2, 2)", x.addEdge(1, 0, -2, 2), -3);
        due("addEdge(1, 0, 1, -1)", x.addEdge(1, 0, 1, -1), 3);
        due("addEdge(2, 2, 1, 0)", x.addEdge(2, 2, 1, 0), 4);
        due("addEdge(2, 2, -1, 0)", x.addEdge(2, 2, -1, 0), -3);
        due("addEdge(2, 2, 2, 0)", x.addEdge(2, 2, 2, 0), 5);
        due("addEdge(2, 2, 0, 0)", x.addEdge(2, 2, 0, 0), -2);
        due("addEdge(1, 2, 0, 0)", x.addEdge(1, 2, 0, 0), 6);
        due("edges()", x.edges(), 7);
        dueErrors("addEdge", x, 1, 4);
        due("undo()", x.undo(), 4);
        due("edges() after undo", x.edges(), 6);
    }

    private static void addEdgeErrors() {
        PeriodicNet x = full();
        due("addEdge(0, 1, 2, 2) when full", x.addEdge(0, 1, 2, 2), -4);
        due("addEdge(0, 0, 0, 1) when full", x.addEdge(0, 0, 0, 1), -4);
        due("addEdge(0, 1, -2, -2) when full", x.addEdge(0, 1, -2, -2), -3);
        due("addEdge(1, 0, 2, 2) when full", x.addEdge(1, 0, 2, 2), -3);
        due("addEdge(0, 0, 0, 0) when full", x.addEdge(0, 0, 0, 0), -2);
        int[] wrong = {-3, 3, Integer.MIN_VALUE, Integer.MAX_VALUE};
        for (int far : wrong) {
            due("addEdge(0, 1, " + far + ", 0)", x.addEdge(0, 1, far, 0), -2);
            due("addEdge(0, 1, 0, " + far + ")", x.addEdge(0, 1, 0, far), -2);
            due("addEdge(" + far + ", 1, 0, 0)", x.addEdge(far, 1, 0, 0), -2);
            due("addEdge(1, " + far + ", 0, 0)", x.addEdge(1, far, 0, 0), -2);
        }
        due("addEdge(2, 0, 0, 0)", x.addEdge(2, 0, 0, 0), -2);
        due("addEdge(0, 2, 0, 0)", x.addEdge(0, 2, 0, 0), -2);
        due("addEdge(-1, 0, 0, 0)", x.addEdge(-1, 0, 0, 0), -2);
        due("addEdge(0, -1, 0, 0)", x.addEdge(0, -1, 0, 0), -2);
        due("edges() when full", x.edges(), 12);
        due("removeEdge(11)", x.removeEdge(11), 11);
        due("addEdge(0, 1, 2, 2)", x.addEdge(0, 1, 2, 2), 11);
        dueErrors("addEdge", x, 21, 2, 2);
    }

    private static void removeEdge() {
        PeriodicNet x = honeycomb();
        due("removeEdge(3)", x.removeEdge(3), -2);
        due("removeEdge(-1)", x.removeEdge(-1), -2);
        for (int far : FAR) {
            due("removeEdge(" + far + ")", x.removeEdge(far), -2);
        }
        due("edges() after errors", x.edges(), 3);
        due("removeEdge(0)", x.removeEdge(0), 2);
        due("findEdge(0, 1, 0, 0)", x.findEdge(0, 1, 0, 0), -1);
        due("findEdge(0, 1, -1, 0)", x.findEdge(0, 1, -1, 0), 0);
        due("findEdge(0, 1, 0, -1)", x.findEdge(0, 1, 0, -1), 1);
        due("degree(1)", x.degree(1), 2);
        due("removeEdge(1)", x.removeEdge(1), 1);
        due("findEdge(0, 1, -1, 0)", x.findEdge(0, 1, -1, 0), 0);
        due("removeEdge(0)", x.removeEdge(0), 0);
        due("removeEdge(0)", x.removeEdge(0), -2);
        due("vertices()", x.vertices(), 2);
        due("undo()", x.undo(), 4);
        due("undo()", x.undo(), 3);
        due("undo()", x.undo(), 2);
        due("findEdge(0, 1, 0, -1) after undo", x.findEdge(0, 1, 0, -1), 2);
        dueErrors("removeEdge", x, 7);
    }

    private static void findEdge() {
        PeriodicNet x = new PeriodicNet();
        x.reset(2);
        x.addEdge(0, 1, 1, -2);
        x.addEdge(1, 1, 2, 1);
        long before = x.digest();
        due("findEdge(0, 1, 1, -2)", x.findEdge(0, 1, 1, -2), 0);
        due("findEdge(1, 0, -1, 2)", x.findEdge(1, 0, -1, 2), 0);
        due("findEdge(1, 0, 1, -2)", x.findEdge(1, 0, 1, -2), -1);
        due("findEdge(0, 1, 1, 2)", x.findEdge(0, 1, 1, 2), -1);
        due("findEdge(0, 1, -1, -2)", x.findEdge(0, 1, -1, -2), -1);
        due("findEdge(1, 1, 2, 1)", x.findEdge(1, 1, 2, 1), 1);
        due("findEdge(1, 1, -2, -1)", x.findEdge(1, 1, -2, -1), 1);
        due("findEdge(1, 1, 1, 2)", x.findEdge(1, 1, 1, 2), -1);
        due("findEdge(0, 0, 0, 0)", x.findEdge(0, 0, 0, 0), -1);
        for (int far : FAR) {
            due("findEdge(0, 1, " + far + ", -2)", x.findEdge(0, 1, far, -2), -1);
            due("findEdge(0, 1, 1, " + far + ")", x.findEdge(0, 1, 1, far), -1);
        }
        due("digest() after findEdge", x.digest(), before);
        due("findEdge(0, 2, 0, 0)", x.findEdge(0, 2, 0, 0), -2);
        due("findEdge(2, 0, 0, 0)", x.findEdge(2, 0, 0, 0), -2);
        due("findEdge(0, 2, 9, 9)", x.findEdge(0, 2, 9, 9), -2);
        for (int far : FAR) {
            due("findEdge(0, " + far + ", 0, 0)", x.findEdge(0, far, 0, 0), -2);
            due("findEdge(" + far + ", 0, 0, 0)", x.findEdge(far, 0, 0, 0), -2);
        }
        dueErrors("findEdge", x, 11);
    }

    private static void moveVertex() {
        PeriodicNet x = new PeriodicNet();
        x.reset(3);
        x.addEdge(1, 0, 1, 2);
        x.addEdge(2, 1, -1, 0);
        x.addEdge(1, 1, 2, 2);
        x.addEdge(0, 2, 0, 0);
        due("moveVertex(1, 2, 1)", x.moveVertex(1, 2, 1), 2);
        due("the edge that starts at 1", x.findEdge(1, 0, -1, 1), 0);
        due("the edge that ends at 1", x.findEdge(2, 1, 1, 1), 1);
        due("the edge from 1 to itself", x.findEdge(1, 1, 2, 2), 2);
        due("the edge that is not at 1", x.findEdge(0, 2, 0, 0), 3);
        due("moveVertex(1, -2, -1)", x.moveVertex(1, -2, -1), 2);
        due("the edge that starts at 1", x.findEdge(1, 0, 1, 2), 0);
        due("moveVertex(0, 0, 0)", x.moveVertex(0, 0, 0), 0);
        due("moveVertex(0, 0, -1)", x.moveVertex(0, 0, -1), 2);
        due("the edge that ends at 0", x.findEdge(1, 0, 1, 1), 0);
        due("the edge that starts at 0", x.findEdge(0, 2, 0, 1), 3);
        due("undo()", x.undo(), 4);
        due("undo() of a move by nothing", x.undo(), 3);
        due("undo()", x.undo(), 2);
        due("findEdge(1, 0, -1, 1) after undo", x.findEdge(1, 0, -1, 1), 0);
        dueErrors("moveVertex", x);
    }

    private static void moveVertexErrors() {
        PeriodicNet x = new PeriodicNet();
        x.reset(2);
        x.addEdge(0, 1, 1, 0);
        x.addEdge(1, 0, 2, 0);
        long before = x.digest();
        due("moveVertex(1, 1, 0)", x.moveVertex(1, 1, 0), 2);
        due("moveVertex(1, 1, 0)", x.moveVertex(1, 1, 0), -5);
        due("findEdge(0, 1, 2, 0)", x.findEdge(0, 1, 2, 0), 0);
        due("findEdge(1, 0, 1, 0)", x.findEdge(1, 0, 1, 0), 1);
        due("undo()", x.undo(), 3);
        due("moveVertex(1, -1, 0)", x.moveVertex(1, -1, 0), -5);
        due("moveVertex(0, 0, 2)", x.moveVertex(0, 0, 2), 2);
        due("moveVertex(0, 0, 1)", x.moveVertex(0, 0, 1), -5);
        due("undo()", x.undo(), 3);
        dueErrors("moveVertex", x, 0, 0, 0, 3);
        due("moveVertex(2, 0, 0)", x.moveVertex(2, 0, 0), -2);
        due("moveVertex(-1, 0, 0)", x.moveVertex(-1, 0, 0), -2);
        int[] wrong = {-3, 3, Integer.MIN_VALUE, Integer.MAX_VALUE};
        for (int far : wrong) {
            due("moveVertex(0, " + far + ", 0)", x.moveVertex(0, far, 0), -2);
            due("moveVertex(0, 0, " + far + ")", x.moveVertex(0, 0, far), -2);
            due("moveVertex(" + far + ", 0, 0)", x.moveVertex(far, 0, 0), -2);
        }
        dueErrors("moveVertex", x, 14, 0, 0, 3);
        CHECK.holds("digest counts the errors", x.digest() != before);
    }

    private static void changeBasis() {
        PeriodicNet x = new PeriodicNet();
        x.reset(2);
        x.addEdge(0, 1, 1, -2);
        x.addEdge(0, 1, 1, 1);
        x.addEdge(0, 1, 0, 0);
        x.addEdge(0, 1, 0, -1);
        x.addEdge(0, 1, 2, 0);
        due("changeBasis(0)", x.changeBasis(0), 3);
        due("(1, -2) under 0", x.findEdge(0, 1, -2, 1), 0);
        due("(1, 1) under 0", x.findEdge(0, 1, 1, 1), 1);
        due("(0, -1) under 0", x.findEdge(0, 1, -1, 0), 3);
        due("undo()", x.undo(), 4);
        due("changeBasis(1)", x.changeBasis(1), 3);
        due("(1, -2) under 1", x.findEdge(0, 1, -1, -2), 0);
        due("(1, 1) under 1", x.findEdge(0, 1, 2, 1), 1);
        due("(0, -1) under 1", x.findEdge(0, 1, -1, -1), 3);
        due("(2, 0) under 1", x.findEdge(0, 1, 2, 0), 4);
        due("changeBasis(2)", x.changeBasis(2), 3);
        due("(1, -2) under 1 and 2", x.findEdge(0, 1, 1, -2), 0);
        due("changeBasis(3)", x.changeBasis(3), 3);
        due("(1, -2) under 3", x.findEdge(0, 1, -1, -2), 0);
        due("(0, -1) under 3", x.findEdge(0, 1, 0, -1), 3);
        due("(2, 0) under 3", x.findEdge(0, 1, -2, 0), 4);
        due("changeBasis(2)", x.changeBasis(2), 3);
        due("(-1, -2) under 2", x.findEdge(0, 1, 1, -2), 0);
        due("(-1, 1) under 2", x.findEdge(0, 1, -2, 1), 1);
        due("(0, -1) under 2", x.findEdge(0, 1, 1, -1), 3);
        due("undo()", x.undo(), 4);
        due("reset(1)", x.reset(1), 2);
        due("changeBasis(1) without edges", x.changeBasis(1), 0);
        due("undo() of it", x.undo(), 4);
        dueErrors("changeBasis", x);
    }

    private static void changeBasisErrors() {
        PeriodicNet x = new PeriodicNet();
        x.addEdge(0, 0, 0, 1);
        x.addEdge(0, 0, 2, 1);
        due("changeBasis(1)", x.changeBasis(1), -5);
        due("findEdge(0, 0, 0, 1)", x.findEdge(0, 0, 0, 1), 0);
        due("findEdge(0, 0, 2, 1)", x.findEdge(0, 0, 2, 1), 1);
        due("changeBasis(3)", x.changeBasis(3), 1);
        due("changeBasis(2)", x.changeBasis(2), -5);
        due("findEdge(0, 0, -2, 1)", x.findEdge(0, 0, -2, 1), 1);
        due("changeBasis(-1)", x.changeBasis(-1), -2);
        due("changeBasis(4)", x.changeBasis(4), -2);
        for (int far : FAR) {
            due("changeBasis(" + far + ")", x.changeBasis(far), -2);
        }
        dueErrors("changeBasis", x, 6, 0, 0, 2);
        due("undo() after errors", x.undo(), 2);
    }

    private static void verticesAndEdges() {
        PeriodicNet x = new PeriodicNet();
        for (int n = 1; n <= 6; n++) {
            x.reset(n);
            due("vertices()", x.vertices(), n);
        }
        due("edges()", x.edges(), 0);
        for (int k = 1; k <= 5; k++) {
            x.addEdge(k - 1, k, 0, 0);
            due("edges()", x.edges(), k);
            due("vertices()", x.vertices(), 6);
        }
        x.removeEdge(2);
        due("edges() after removeEdge", x.edges(), 4);
        x.undo();
        due("edges() after undo", x.edges(), 5);
        due("edges() of the full net", full().edges(), 12);
    }

    private static void degreeAndNeighbour() {
        PeriodicNet x = new PeriodicNet();
        x.reset(4);
        x.addEdge(1, 0, 0, 0);
        x.addEdge(0, 0, 1, 0);
        x.addEdge(0, 2, 0, 0);
        x.addEdge(2, 1, 0, 0);
        x.addEdge(0, 2, 1, 0);
        int[][] want = {{1, 0, 0, 2, 2}, {0, 2}, {0, 1, 0}, {}};
        for (int v = 0; v < 4; v++) {
            due("degree(" + v + ")", x.degree(v), want[v].length);
            for (int end = 0; end < want[v].length; end++) {
                due("neighbour(" + v + ", " + end + ")", x.neighbour(v, end), want[v][end]);
            }
            due("neighbour past the last end", x.neighbour(v, want[v].length), -2);
            due("neighbour(" + v + ", -1)", x.neighbour(v, -1), -2);
        }
        due("degree(4)", x.degree(4), -2);
        due("degree(-1)", x.degree(-1), -2);
        due("neighbour(4, 0)", x.neighbour(4, 0), -2);
        due("neighbour(-1, 0)", x.neighbour(-1, 0), -2);
        for (int far : FAR) {
            due("degree(" + far + ")", x.degree(far), -2);
            due("neighbour(" + far + ", 0)", x.neighbour(far, 0), -2);
            due("neighbour(0, " + far + ")", x.neighbour(0, far), -2);
        }
        dueErrors("degree and neighbour", x, 24);
        x.removeEdge(1);
        due("degree(0) without the loop", x.degree(0), 3);
        due("neighbour(0, 1) without the loop", x.neighbour(0, 1), 2);
        due("degree(0) of the full net", full().degree(0), 12);
        x = new PeriodicNet();
        for (int k = 0; k < 12; k++) {
            x.addEdge(0, 0, k / 5 - 2, k % 5 - 2);
        }
        due("degree(0) with 12 loops", x.degree(0), 24);
        due("neighbour(0, 23) with 12 loops", x.neighbour(0, 23), 0);
    }

    private static void coordination() {
        PeriodicNet x = new PeriodicNet();
        due("coordination(0, 0) alone", x.coordination(0, 0), 1);
        due("coordination(0, 1) alone", x.coordination(0, 1), 0);
        x = square();
        PeriodicNet hexagons = honeycomb();
        for (int n = 1; n <= 8; n++) {
            due("coordination(0, " + n + ") of squares", x.coordination(0, n), 4 * n);
            due("coordination(1, " + n + ") of hexagons", hexagons.coordination(1, n), 3 * n);
        }
        due("coordination(0, 0) of squares", x.coordination(0, 0), 1);
        x = new PeriodicNet();
        x.addEdge(0, 0, 2, 0);
        x.addEdge(0, 0, 0, 2);
        x.addEdge(0, 0, 2, 2);
        x.addEdge(0, 0, 2, -2);
        due("coordination(0, 8) of king's moves", x.coordination(0, 8), 64);
        due("coordination(0, 3) of king's moves", x.coordination(0, 3), 24);
        due("coordination(0, 9)", x.coordination(0, 9), -2);
        due("coordination(0, -1)", x.coordination(0, -1), -2);
        due("coordination(1, 0)", x.coordination(1, 0), -2);
        due("coordination(-1, 0)", x.coordination(-1, 0), -2);
        for (int far : FAR) {
            due("coordination(0, " + far + ")", x.coordination(0, far), -2);
            due("coordination(" + far + ", 0)", x.coordination(far, 0), -2);
        }
        dueErrors("coordination", x, 12);
        x = pieces();
        due("coordination(1, 1) of a piece", x.coordination(1, 1), 2);
        due("coordination(0, 2) of a piece", x.coordination(0, 2), 1);
        due("coordination(0, 3) of a piece", x.coordination(0, 3), 0);
        due("coordination(3, 8) of a line", x.coordination(3, 8), 2);
    }

    private static void distance() {
        PeriodicNet x = square();
        for (int i = -8; i <= 8; i++) {
            for (int j = -8; j <= 8; j++) {
                int steps = Math.abs(i) + Math.abs(j);
                int want = steps <= 8 ? steps : -1;
                due("distance(0, 0, " + i + ", " + j + ")", x.distance(0, 0, i, j), want);
            }
        }
        int[] wrong = {-9, 9, Integer.MIN_VALUE, Integer.MAX_VALUE};
        for (int far : wrong) {
            due("distance(0, 0, " + far + ", 0)", x.distance(0, 0, far, 0), -2);
            due("distance(0, 0, 0, " + far + ")", x.distance(0, 0, 0, far), -2);
            due("distance(" + far + ", 0, 0, 0)", x.distance(far, 0, 0, 0), -2);
            due("distance(0, " + far + ", 0, 0)", x.distance(0, far, 0, 0), -2);
        }
        due("distance(0, 1, 0, 0)", x.distance(0, 1, 0, 0), -2);
        due("distance(1, 0, 0, 0)", x.distance(1, 0, 0, 0), -2);
        dueErrors("distance", x, 18);
        x = pieces();
        due("distance(0, 1, 1, 0)", x.distance(0, 1, 1, 0), 1);
        due("distance(0, 2, 1, -2)", x.distance(0, 2, 1, -2), 2);
        due("distance(2, 0, -1, 2)", x.distance(2, 0, -1, 2), 2);
        due("distance(2, 0, 1, -2)", x.distance(2, 0, 1, -2), -1);
        due("distance(0, 0, 0, 0)", x.distance(0, 0, 0, 0), 0);
        due("distance(0, 3, 0, 0)", x.distance(0, 3, 0, 0), -1);
        due("distance(3, 3, 0, 8)", x.distance(3, 3, 0, 8), 4);
        due("distance(3, 3, 0, 7)", x.distance(3, 3, 0, 7), -1);
        due("distance(4, 4, -1, -2)", x.distance(4, 4, -1, -2), 1);
        due("distance(4, 4, 8, 8)", x.distance(4, 4, 8, 8), 6);
        due("distance(4, 4, -8, 8)", x.distance(4, 4, -8, 8), -1);
    }

    private static void rankAndIndex() {
        PeriodicNet x = pieces();
        int[] rank = {0, 0, 0, 1, 2};
        int[] index = {-1, -1, -1, -1, 4};
        for (int v = 0; v < 5; v++) {
            due("rank(" + v + ") of pieces", x.rank(v), rank[v]);
            due("index(" + v + ") of pieces", x.index(v), index[v]);
        }
        dueErrors("rank and index", x);
        due("rank(5)", x.rank(5), -2);
        due("rank(-1)", x.rank(-1), -2);
        due("index(5)", x.index(5), -2);
        due("index(-1)", x.index(-1), -2);
        for (int far : FAR) {
            due("rank(" + far + ")", x.rank(far), -2);
            due("index(" + far + ")", x.index(far), -2);
        }
        dueErrors("rank and index", x, 12);
        x.addEdge(3, 4, 1, 1);
        due("rank(3) after joining", x.rank(3), 2);
        due("index(3) after joining", x.index(3), 2);
        x.addEdge(0, 2, 2, -2);
        due("rank(0) with a cycle", x.rank(0), 1);
        due("index(0) with a cycle", x.index(0), -1);
        x = new PeriodicNet();
        x.addEdge(0, 0, 1, 2);
        x.addEdge(0, 0, -2, 1);
        due("index(0) of (1, 2) and (-2, 1)", x.index(0), 5);
        x.removeEdge(1);
        x.addEdge(0, 0, 2, 2);
        due("index(0) of (1, 2) and (2, 2)", x.index(0), 2);
        x.removeEdge(0);
        x.addEdge(0, 0, 1, 1);
        due("rank(0) of (2, 2) and (1, 1)", x.rank(0), 1);
        x = new PeriodicNet();
        x.reset(2);
        x.addEdge(0, 1, 2, 2);
        x.addEdge(1, 0, 2, 2);
        x.addEdge(1, 0, 2, -2);
        due("index(0) of (4, 4) and (4, 0)", x.index(0), 16);
        due("index(1) of (4, 4) and (4, 0)", x.index(1), 16);
        x.addEdge(1, 1, 0, 1);
        due("index(0) with (0, 1)", x.index(0), 4);
    }

    private static void isConnected() {
        PeriodicNet x = pieces();
        due("isConnected() of pieces", x.isConnected(), 0);
        x.addEdge(3, 0, 0, 0);
        due("isConnected() of two pieces", x.isConnected(), 0);
        x.addEdge(4, 3, 2, 2);
        due("isConnected() of one piece", x.isConnected(), 1);
        x.undo();
        due("isConnected() after undo", x.isConnected(), 0);
        // The order of the edges and their directions must not matter.
        x = new PeriodicNet();
        x.reset(6);
        x.addEdge(5, 4, 0, 0);
        x.addEdge(3, 4, 0, 0);
        x.addEdge(3, 2, 0, 0);
        x.addEdge(1, 2, 0, 0);
        due("isConnected() without vertex 0", x.isConnected(), 0);
        x.addEdge(1, 0, 0, 0);
        due("isConnected() of a row", x.isConnected(), 1);
        dueErrors("isConnected", x);
    }

    private static void ring() {
        PeriodicNet x = square();
        int[][] want = {{-2, 6, 4, 4}, {6, -2, 4, 4}, {4, 4, -2, 6}, {4, 4, 6, -2}};
        for (int p = 0; p < 4; p++) {
            for (int q = 0; q < 4; q++) {
                due("ring(0, " + p + ", " + q + ")", x.ring(0, p, q), want[p][q]);
            }
        }
        dueErrors("ring", x, 4);
        due("ring(0, 4, 0)", x.ring(0, 4, 0), -2);
        due("ring(0, 0, 4)", x.ring(0, 0, 4), -2);
        due("ring(0, -1, 0)", x.ring(0, -1, 0), -2);
        due("ring(0, 0, -1)", x.ring(0, 0, -1), -2);
        due("ring(1, 0, 1)", x.ring(1, 0, 1), -2);
        for (int far : FAR) {
            due("ring(" + far + ", 0, 1)", x.ring(far, 0, 1), -2);
            due("ring(0, " + far + ", 1)", x.ring(0, far, 1), -2);
            due("ring(0, 0, " + far + ")", x.ring(0, 0, far), -2);
        }
        dueErrors("ring", x, 21);
        x.addEdge(0, 0, 1, 1);
        due("ring(0, 0, 4) of triangles", x.ring(0, 0, 4), 3);
        due("ring(0, 1, 5) of triangles", x.ring(0, 1, 5), 3);
        due("ring(0, 0, 3) of triangles", x.ring(0, 0, 3), 3);
        due("ring(0, 4, 5) of triangles", x.ring(0, 4, 5), 5);
        x = pieces();
        due("ring(1, 0, 1) of a row", x.ring(1, 0, 1), -1);
        due("ring(3, 0, 1) of a line", x.ring(3, 0, 1), -1);
        due("ring(4, 0, 2) of squares", x.ring(4, 0, 2), 4);
        dueErrors("ring", x);
    }

    private static void ringLimit() {
        PeriodicNet x = longHoneycomb(false);
        for (int p = 0; p < 3; p++) {
            for (int q = 0; q < 3; q++) {
                if (p != q) {
                    due("ring(0, " + p + ", " + q + ") of 12", x.ring(0, p, q), 12);
                    due("ring(1, " + p + ", " + q + ") of 12", x.ring(1, p, q), 12);
                }
            }
        }
        due("ring(2, 0, 1) of 12", x.ring(2, 0, 1), 12);
        x = longHoneycomb(true);
        due("ring(0, 0, 1) of 14", x.ring(0, 0, 1), -1);
        due("ring(5, 0, 1) of 14", x.ring(5, 0, 1), -1);
        // Its smallest ring through these two ends has 13 nodes, one too many.
        x = new PeriodicNet();
        x.reset(4);
        int[][] edges = {{0, 1, 0, 0}, {1, 2, 0, 0}, {2, 3, 0, 0}, {1, 2, -1, 1}, {0, 2, 0, 0},
            {2, 3, 0, -1}};
        for (int[] edge : edges) {
            x.addEdge(edge[0], edge[1], edge[2], edge[3]);
        }
        due("ring(2, 2, 3) of 13", x.ring(2, 2, 3), -1);
        due("ring(2, 0, 3) of triangles", x.ring(2, 0, 3), 3);
        dueErrors("ring", x);
    }

    private static void dueFraction(PeriodicNet x, int v, int axis, long top, long bottom) {
        due("numerator(" + v + ", " + axis + ")", x.numerator(v, axis), top);
        due("denominator(" + v + ", " + axis + ")", x.denominator(v, axis), bottom);
    }

    private static void fractions() {
        PeriodicNet x = new PeriodicNet();
        dueFraction(x, 0, 0, 0, 1);
        dueFraction(x, 0, 1, 0, 1);
        x = honeycomb();
        dueFraction(x, 0, 0, 0, 1);
        dueFraction(x, 1, 0, 1, 3);
        dueFraction(x, 1, 1, 1, 3);
        x.addEdge(1, 1, 2, -1);
        dueFraction(x, 1, 0, 1, 3);
        x.addEdge(1, 0, -2, 2);
        dueFraction(x, 1, 0, -1, 4);
        dueFraction(x, 1, 1, 3, 4);
        // A row whose positions are whole, and equal error codes.
        x = new PeriodicNet();
        x.reset(4);
        x.addEdge(1, 0, -2, 0);
        x.addEdge(1, 2, 2, -1);
        x.addEdge(2, 3, 2, 1);
        dueFraction(x, 1, 0, -2, 1);
        dueFraction(x, 2, 0, -4, 1);
        dueFraction(x, 3, 0, -6, 1);
        dueFraction(x, 2, 1, 1, 1);
        dueFraction(x, 3, 1, 0, 1);
        dueErrors("numerators that equal error codes", x);
        // Once round: each of the six gets a sixth of the shift more.
        x = new PeriodicNet();
        x.reset(6);
        for (int v = 0; v < 6; v++) {
            x.addEdge(v, (v + 1) % 6, v == 5 ? 1 : 0, v == 5 ? -2 : 0);
        }
        long[][] top = {{0, 0}, {1, -1}, {1, -2}, {1, -1}, {2, -4}, {5, -5}};
        long[][] bottom = {{1, 1}, {6, 3}, {3, 3}, {2, 1}, {3, 3}, {6, 3}};
        for (int v = 0; v < 6; v++) {
            dueFraction(x, v, 0, top[v][0], bottom[v][0]);
            dueFraction(x, v, 1, top[v][1], bottom[v][1]);
        }
    }

    private static void fractionErrors() {
        PeriodicNet x = pieces();
        due("numerator(0, 0)", x.numerator(0, 0), -6);
        due("denominator(0, 0)", x.denominator(0, 0), -6);
        due("positionBits(4, 1)", x.positionBits(4, 1), -6);
        dueErrors("placement in pieces", x, 0, 0, 0, 0, 3);
        int[][] wrong = {{5, 0}, {-1, 0}, {0, 2}, {0, -1}, {Integer.MIN_VALUE, 0},
            {Integer.MAX_VALUE, 0}, {0, Integer.MIN_VALUE}, {0, Integer.MAX_VALUE}};
        for (int[] pair : wrong) {
            due("numerator out of range", x.numerator(pair[0], pair[1]), -2);
            due("denominator out of range", x.denominator(pair[0], pair[1]), -2);
            due("positionBits out of range", x.positionBits(pair[0], pair[1]), -2);
        }
        dueErrors("placement out of range", x, 24, 0, 0, 0, 3);
    }

    private static void collide() {
        PeriodicNet x = new PeriodicNet();
        x.reset(4);
        x.addEdge(0, 1, 1, -2);
        x.addEdge(1, 2, 0, 0);
        x.addEdge(1, 2, 1, 0);
        x.addEdge(1, 3, 0, 0);
        x.addEdge(1, 3, 1, 0);
        due("collide(0, 1) a cell apart", x.collide(0, 1), 1);
        due("collide(1, 0) a cell apart", x.collide(1, 0), 1);
        due("collide(0, 2) half a cell apart", x.collide(0, 2), 0);
        due("collide(2, 3) in one place", x.collide(2, 3), 1);
        x.addEdge(2, 2, 1, 1);
        due("collide(2, 3) with a loop", x.collide(2, 3), 1);
        x.addEdge(3, 3, 0, 1);
        x.addEdge(1, 3, 0, 1);
        due("collide(2, 3) with one edge more", x.collide(2, 3), 0);
        // Both coordinates must be whole, not just one.
        x = new PeriodicNet();
        x.reset(2);
        x.addEdge(0, 1, 0, 0);
        x.addEdge(0, 1, 0, 1);
        due("collide(0, 1) apart along axis 1", x.collide(0, 1), 0);
        x.changeBasis(0);
        due("collide(0, 1) apart along axis 0", x.collide(0, 1), 0);
        due("collide(0, 0)", x.collide(0, 0), -2);
        due("collide(0, 2)", x.collide(0, 2), -2);
        due("collide(2, 0)", x.collide(2, 0), -2);
        due("collide(-1, 0)", x.collide(-1, 0), -2);
        for (int far : FAR) {
            due("collide(0, " + far + ")", x.collide(0, far), -2);
            due("collide(" + far + ", 0)", x.collide(far, 0), -2);
        }
        dueErrors("collide", x, 12);
        x.reset(2);
        due("collide(0, 1) in pieces", x.collide(0, 1), -6);
        due("collide(1, 1) in pieces", x.collide(1, 1), -2);
        due("collide(1, 2) in pieces", x.collide(1, 2), -2);
        dueErrors("collide", x, 14, 0, 0, 0, 1);
    }

    private static void collisions() {
        PeriodicNet x = new PeriodicNet();
        due("collisions() of a vertex", x.collisions(), 0);
        x.reset(6);
        due("collisions() in pieces", x.collisions(), -6);
        for (int v = 1; v < 6; v++) {
            x.addEdge(0, v, v % 3, v % 2);
        }
        due("collisions() of whole positions", x.collisions(), 15);
        // Half a cell for vertices 1 and 2, in the same direction, and for 3 in the other.
        x.addEdge(0, 1, 0, 1);
        x.addEdge(0, 2, 1, 0);
        x.addEdge(0, 3, 0, 0);
        due("numerator(3, 1)", x.numerator(3, 1), -1);
        due("collisions() of three kinds", x.collisions(), 4);
        due("collisions() of hexagons", honeycomb().collisions(), 0);
        dueErrors("collisions", x, 0, 0, 0, 0, 1);
    }

    private static void positionBits() {
        PeriodicNet x = honeycomb();
        due("positionBits(0, 0)", x.positionBits(0, 0), 0);
        due("positionBits(1, 0) of 1/3", x.positionBits(1, 0), 0x3eaaaaab);
        x.moveVertex(1, 1, 1);
        due("positionBits(1, 1) of -2/3", x.positionBits(1, 1), 0xbf2aaaab);
        x = new PeriodicNet();
        x.reset(5);
        x.addEdge(0, 1, -1, 1);
        x.addEdge(2, 0, 2, -2);
        x.addEdge(2, 3, -2, 2);
        x.addEdge(3, 4, -1, 0);
        x.addEdge(4, 4, 1, 0);
        due("positionBits of 1", x.positionBits(1, 0), 0x3f800000);
        due("positionBits of -1", x.positionBits(1, 1), 0xbf800000);
        due("positionBits of 2", x.positionBits(2, 0), 0x40000000);
        due("positionBits of -2", x.positionBits(2, 1), 0xc0000000);
        due("positionBits of 4", x.positionBits(3, 0), 0x40800000);
        due("positionBits of 5", x.positionBits(4, 0), 0x40a00000);
        x.addEdge(3, 4, 0, -1);
        due("positionBits of 9/2", x.positionBits(4, 0), 0x40900000);
        due("positionBits of -7/2", x.positionBits(4, 1), 0xc0600000);
        dueErrors("positionBits", x);
    }

    private static void undo() {
        PeriodicNet x = new PeriodicNet();
        due("undo()", x.undo(), -7);
        x.reset(2);
        x.addEdge(0, 1, 0, 0);
        x.addEdge(0, 1, 1, 0);
        x.moveVertex(1, 0, 1);
        x.changeBasis(0);
        x.removeEdge(0);
        x.moveVertex(0, 0, 0);
        x.moveVertex(0, 3, 0);
        x.addEdge(0, 1, 1, 1);
        due("edges() before undo", x.edges(), 1);
        due("undo() of no change", x.undo(), 4);
        due("edges()", x.edges(), 1);
        due("undo() of removeEdge", x.undo(), 3);
        due("findEdge(0, 1, 1, 0)", x.findEdge(0, 1, 1, 0), 0);
        due("findEdge(0, 1, 1, 1)", x.findEdge(0, 1, 1, 1), 1);
        due("undo() of changeBasis", x.undo(), 2);
        due("findEdge(0, 1, 0, 1)", x.findEdge(0, 1, 0, 1), 0);
        due("undo() of moveVertex", x.undo(), 1);
        due("findEdge(0, 1, 0, 0)", x.findEdge(0, 1, 0, 0), 0);
        due("undo() of addEdge", x.undo(), 0);
        due("edges() at last", x.edges(), 1);
        due("degree(1) at last", x.degree(1), 1);
        due("vertices() at last", x.vertices(), 2);
        due("undo() of a dropped state", x.undo(), -7);
        due("edges() after that", x.edges(), 1);
        dueErrors("undo", x, 1, 1, 0, 0, 0, 2);
        x.reset(5);
        due("undo() of reset", x.undo(), 0);
        due("vertices() after undo of reset", x.vertices(), 2);
        dueErrors("undo keeps the counters", x, 1, 1, 0, 0, 0, 2);
    }

    private static void errorCount() {
        PeriodicNet x = full();
        x.reset(0);
        x.reset(0);
        x.addEdge(0, 1, -2, -2);
        x.addEdge(0, 1, 2, 2);
        x.addEdge(0, 1, 2, 1);
        x.addEdge(0, 1, 2, 0);
        x.moveVertex(1, 2, 0);
        x.moveVertex(1, 2, 0);
        x.moveVertex(1, 1, 0);
        x.moveVertex(1, 2, 2);
        for (int k = 0; k < 5; k++) {
            x.undo();
        }
        for (int k = 0; k < 6; k++) {
            x.undo();
        }
        dueErrors("many errors", x, 2, 1, 3, 3, 0, 6);
        x.reset(2);
        for (int k = 0; k < 7; k++) {
            x.collisions();
        }
        dueErrors("many errors", x, 2, 1, 3, 3, 7, 6);
        due("errorCount(-1)", x.errorCount(-1), -2);
        due("errorCount(-8)", x.errorCount(-8), -2);
        due("errorCount(0)", x.errorCount(0), -2);
        due("errorCount(2)", x.errorCount(2), -2);
        for (int far : FAR) {
            due("errorCount(" + far + ")", x.errorCount(far), -2);
        }
        dueErrors("wrong codes", x, 10, 1, 3, 3, 7, 6);
    }

    /** The digest by the words of promise 25; its edges are told, for no method tells them. */
    private static long digestOf(PeriodicNet x, int savedStates, int[][] edges) {
        long h = 2699;
        for (int code = -2; code >= -7; code--) {
            h = 31 * h + x.errorCount(code);
        }
        h = 31 * (31 * h + x.vertices()) + x.edges();
        for (int[] edge : edges) {
            for (int value : edge) {
                h = 31 * h + value;
            }
        }
        for (int v = 0; v < x.vertices(); v++) {
            h = 31 * h + x.degree(v);
            for (int n = 1; n <= 4; n++) {
                h = 31 * h + x.coordination(v, n);
            }
            h = 31 * (31 * h + x.rank(v)) + x.index(v);
        }
        h = 31 * h + x.isConnected();
        for (int v = 0; v < x.vertices() && x.isConnected() == 1; v++) {
            h = 31 * (31 * h + x.numerator(v, 0)) + x.denominator(v, 0);
            h = 31 * (31 * h + x.numerator(v, 1)) + x.denominator(v, 1);
        }
        return 31 * h + savedStates;
    }

    private static void digest() {
        PeriodicNet x = new PeriodicNet();
        long want = 2699;
        int[] values = {0, 0, 0, 0, 0, 0, 1, 0, 0, 0, 0, 0, 0, 0, -1, 1, 0, 1, 0, 1, 0};
        for (int value : values) {
            want = 31 * want + value;
        }
        due("digest() of a new object", x.digest(), want);
        due("digest() again", x.digest(), want);
        x = honeycomb();
        int[][] edges = {{0, 1, 0, 0}, {0, 1, -1, 0}, {0, 1, 0, -1}};
        due("digest() of hexagons", x.digest(), digestOf(x, 4, edges));
        x.changeBasis(3);
        x.undo();
        due("digest() after undo", x.digest(), digestOf(x, 4, edges));
        x.addEdge(1, 0, 2, 1);
        x.addEdge(1, 0, 2, 1);
        x.addEdge(1, 0, 3, 1);
        x.moveVertex(1, 1, -1);
        x.moveVertex(0, 2, 2);
        x.undo();
        x.undo();
        x.undo();
        x.undo();
        x.undo();
        x.undo();
        x.undo();
        int[][] last = {};
        due("digest() of two pieces", x.digest(), digestOf(x, 0, last));
        x.addEdge(1, 0, 2, 1);
        x.collisions();
        int[][] one = {{1, 0, 2, 1}};
        due("digest() of an edge as it was given", x.digest(), digestOf(x, 1, one));
        x.moveVertex(0, -1, 1);
        int[][] moved = {{1, 0, 1, 2}};
        due("digest() of an edge as it is now", x.digest(), digestOf(x, 2, moved));
        x = pieces();
        int[][] five = {{0, 1, 1, 0}, {2, 1, 0, 2}, {3, 3, 0, 2}, {4, 4, 2, 0}, {4, 4, 1, 2}};
        x.collisions();
        due("digest() of pieces", x.digest(), digestOf(x, 5, five));
    }
}
