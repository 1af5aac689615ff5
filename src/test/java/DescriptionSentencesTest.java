/** The boundary cases that "What it is" and "Description" name, and the examples. */
public final class DescriptionSentencesTest {
    private DescriptionSentencesTest() {
    }

    public static void main(String[] args) {
        Sentences.run(DescriptionSentencesTest.class);
    }

    // ---- an object's 512 calls

    @Sentence(in = "What it is",
        says = "An object is used for at most 512 calls after it has been made;")
    static void callsUpTo512AreCounted(Check check) {
        PeriodicNet net = new PeriodicNet();
        for (int k = 1; k <= 511; k++) {
            check.due("reset(0), call " + k, net.reset(0), -2);
        }
        check.due("errorCount(-2), call 512", net.errorCount(-2), 511);
    }

    @Sentence(in = "What it is",
        says = "An object is used for at most 512 calls after it has been made;")
    static void call512CanEdit(Check check) {
        PeriodicNet net = new PeriodicNet();
        for (int k = 0; k < 510; k++) {
            check.due("reset", net.reset(k % 6 + 1), k == 0 ? 1 : (k - 1) % 6 + 1);
        }
        check.due("undo(), call 511", net.undo(), 4);
        check.due("addEdge, call 512", net.addEdge(0, 4, 2, 2), 0);
    }

    @Sentence(in = "What it is",
        says = "An object is used for at most 512 calls after it has been made;")
    static void call512OfTheDearestIsLikeTheFirst(Check check) {
        PeriodicNet net = Nets.loops(12);
        // 13 resets and edges, and 12 questions how many edges there are.
        int order8 = net.coordination(0, 8);
        for (int k = 27; k < 511; k++) {
            check.due("coordination(0, 8)", net.coordination(0, 8), order8);
        }
        check.due("ring(0, 0, 1), call 511", net.ring(0, 0, 1), 5);
        check.due("coordination(0, 8), call 512", net.coordination(0, 8), order8);
    }

    // ---- the quotient graph

    @Sentence(in = "Description", says = "There are 1 to 6 vertices,")
    static void thereAre1To6Vertices(Check check) {
        PeriodicNet net = new PeriodicNet();
        check.due("reset(1)", net.reset(1), 1);
        check.due("reset(0)", net.reset(0), -2);
        check.due("vertices()", net.vertices(), 1);
        check.due("reset(6)", net.reset(6), 1);
        check.due("reset(7)", net.reset(7), -2);
        check.due("vertices()", net.vertices(), 6);
    }

    @Sentence(in = "Description", says = "numbered from 0")
    static void verticesAreNumberedFrom0(Check check) {
        for (int n = 1; n <= 6; n++) {
            PeriodicNet net = Nets.row(n);
            check.due("degree(-1) of " + n, net.degree(-1), -2);
            check.due("degree(0) of " + n, net.degree(0), n == 1 ? 0 : 1);
            check.due("degree of the last of " + n, net.degree(n - 1), n == 1 ? 0 : 1);
            check.due("degree(" + n + ") of " + n, net.degree(n), -2);
        }
    }

    @Sentence(in = "Description", says = "(initially 1 vertex)")
    static void thereIsInitiallyOneVertex(Check check) {
        PeriodicNet net = new PeriodicNet();
        check.due("addEdge(0, 1, 0, 0)", net.addEdge(0, 1, 0, 0), -2);
        check.due("addEdge(0, 0, 0, 1)", net.addEdge(0, 0, 0, 1), 0);
        check.due("vertices()", net.vertices(), 1);
    }

    @Sentence(in = "Description", says = "and at most 12 edges, numbered from 0.")
    static void thereAreAtMost12Edges(Check check) {
        PeriodicNet net = new PeriodicNet();
        net.reset(2);
        for (int k = 0; k < 12; k++) {
            check.due("addEdge", net.addEdge(0, 1, k / 5 - 2, k % 5 - 2), k);
        }
        check.due("addEdge, the thirteenth", net.addEdge(0, 1, 0, 0), -4);
        check.due("edges()", net.edges(), 12);
        check.due("removeEdge(12)", net.removeEdge(12), -2);
        check.due("removeEdge(-1)", net.removeEdge(-1), -2);
        check.due("removeEdge(11)", net.removeEdge(11), 11);
        check.due("removeEdge(0)", net.removeEdge(0), 10);
    }

    @Sentence(in = "Description", says = "x and y are from -2 to 2.")
    static void eachOfThe25ShiftsCanBe(Check check) {
        for (int[] e : Nets.edgesOfAllShifts(0, 1, 0, 25)) {
            PeriodicNet net = Nets.of(2, e);
            check.due("findEdge", net.findEdge(0, 1, e[2], e[3]), 0);
            check.due("distance", net.distance(0, 1, e[2], e[3]), 1);
        }
    }

    @Sentence(in = "Description", says = "x and y are from -2 to 2.")
    static void noShiftIsBelowMinus2OrAbove2(Check check) {
        PeriodicNet net = new PeriodicNet();
        net.reset(2);
        for (int k = -3; k <= 3; k++) {
            check.due("addEdge(0, 1, 3, " + k + ")", net.addEdge(0, 1, 3, k), -2);
            check.due("addEdge(0, 1, -3, " + k + ")", net.addEdge(0, 1, -3, k), -2);
            check.due("addEdge(0, 1, " + k + ", 3)", net.addEdge(0, 1, k, 3), -2);
            check.due("addEdge(0, 1, " + k + ", -3)", net.addEdge(0, 1, k, -3), -2);
        }
        check.due("edges()", net.edges(), 0);
    }

    @Sentence(in = "Description", says = "the edge from b to a with shift (-x, -y) are the same "
        + "edge;")
    static void theEdgeBackwardIsTheSame(Check check) {
        for (int[] e : Nets.edgesOfAllShifts(0, 1, 0, 25)) {
            PeriodicNet net = Nets.of(2, e);
            check.due("addEdge backward", net.addEdge(1, 0, -e[2], -e[3]), -3);
            check.due("findEdge backward", net.findEdge(1, 0, -e[2], -e[3]), 0);
            check.due("degree(0)", net.degree(0), 1);
        }
    }

    @Sentence(in = "Description", says = "are the same edge;")
    static void theEdgeWithOneSignTurnedIsAnother(Check check) {
        PeriodicNet net = Nets.of(2, Nets.edge(0, 1, 1, 2), Nets.edge(0, 0, 1, 2));
        check.due("addEdge(0, 1, -1, 2)", net.addEdge(0, 1, -1, 2), 2);
        check.due("addEdge(0, 1, 1, -2)", net.addEdge(0, 1, 1, -2), 3);
        check.due("addEdge(0, 1, -1, -2)", net.addEdge(0, 1, -1, -2), 4);
        check.due("addEdge(1, 0, -2, -1)", net.addEdge(1, 0, -2, -1), 5);
        check.due("addEdge(0, 0, 1, -2)", net.addEdge(0, 0, 1, -2), 6);
        check.due("addEdge(0, 0, -1, 2)", net.addEdge(0, 0, -1, 2), -3);
        check.due("addEdge(1, 1, 1, 2)", net.addEdge(1, 1, 1, 2), 7);
    }

    @Sentence(in = "Description", says = "each edge exists at most once.")
    static void anEdgeCanComeAgainOnceItIsGone(Check check) {
        PeriodicNet net = Nets.of(2, Nets.edge(0, 1, 1, 0));
        check.due("addEdge again", net.addEdge(0, 1, 1, 0), -3);
        net.removeEdge(0);
        check.due("addEdge after removeEdge", net.addEdge(1, 0, -1, 0), 0);
        net.undo();
        check.due("addEdge after undo", net.addEdge(0, 1, 1, 0), 0);
        net.moveVertex(1, 1, 0);
        check.due("addEdge after moveVertex", net.addEdge(0, 1, 1, 0), 1);
        check.due("addEdge where it went", net.addEdge(0, 1, 2, 0), -3);
        net.reset(2);
        check.due("addEdge after reset", net.addEdge(0, 1, 1, 0), 0);
    }

    @Sentence(in = "Description",
        says = "An edge from a vertex to itself must not have the shift (0, 0).")
    static void aLoopMustNotStandStill(Check check) {
        PeriodicNet net = Nets.of(6);
        for (int v = 0; v < 6; v++) {
            check.due("addEdge to itself", net.addEdge(v, v, 0, 0), -2);
        }
        check.due("edges()", net.edges(), 0);
        check.due("addEdge(5, 4, 0, 0)", net.addEdge(5, 4, 0, 0), 0);
        check.due("addEdge(5, 5, 0, -1)", net.addEdge(5, 5, 0, -1), 1);
    }

    // ---- the net and the ends

    @Sentence(in = "Description",
        says = "For each cell (i, j), a pair of integers, the net has one node for each vertex:")
    static void eachCellHasItsNode(Check check) {
        PeriodicNet net = Nets.of(2, Nets.edge(0, 0, 1, 0), Nets.edge(0, 0, 0, 1),
            Nets.edge(0, 1, 0, 0));
        // Order n has the nodes of vertex 0 there and those of vertex 1 one step before.
        for (int n = 2; n <= 8; n++) {
            check.due("coordination(0, " + n + ")", net.coordination(0, n), 4 * n + 4 * (n - 1));
        }
        check.due("distance(0, 1, -3, 4)", net.distance(0, 1, -3, 4), 8);
        check.due("distance(1, 1, 3, -3)", net.distance(1, 1, 3, -3), 8);
        check.due("distance(1, 1, 3, 4)", net.distance(1, 1, 3, 4), -1);
    }

    @Sentence(in = "Description", says = "An edge from a to b with shift (x, y) stands for "
        + "infinitely many connections: for each cell (i, j), the nodes (a, i, j) and "
        + "(b, i + x, j + y) are neighbours.")
    static void anEdgeJoinsNodesInEachCell(Check check) {
        PeriodicNet net = Nets.of(3, Nets.edge(0, 1, 2, -1), Nets.edge(1, 2, -2, 2),
            Nets.edge(2, 0, 2, 0));
        check.due("distance(0, 1, 2, -1)", net.distance(0, 1, 2, -1), 1);
        check.due("distance(1, 2, -2, 2)", net.distance(1, 2, -2, 2), 1);
        check.due("distance(2, 0, 2, 0)", net.distance(2, 0, 2, 0), 1);
        check.due("distance(0, 2, 0, 1)", net.distance(0, 2, 0, 1), 2);
        check.due("distance(0, 0, 2, 1)", net.distance(0, 0, 2, 1), 3);
        check.due("distance(0, 0, -4, -2)", net.distance(0, 0, -4, -2), 6);
        check.due("distance(0, 0, 1, 2)", net.distance(0, 0, 1, 2), -1);
    }

    @Sentence(in = "Description", says = "The ends of a vertex v are listed in the order of the "
        + "edges: an edge that starts at v gives a forward end, and an edge that ends at v gives a "
        + "backward end;")
    static void endsStandInTheOrderOfTheEdges(Check check) {
        PeriodicNet net = Nets.of(6, Nets.edge(0, 5, 0, 0), Nets.edge(4, 0, 0, 0),
            Nets.edge(1, 2, 0, 0), Nets.edge(0, 3, 0, 0), Nets.edge(2, 0, 0, 0),
            Nets.edge(0, 1, 0, 0));
        int[] want = {5, 4, 3, 2, 1};
        for (int end = 0; end < 5; end++) {
            check.due("neighbour(0, " + end + ")", net.neighbour(0, end), want[end]);
        }
        net.removeEdge(1);
        check.due("neighbour(0, 1) without edge 1", net.neighbour(0, 1), 3);
        check.due("neighbour(1, 0)", net.neighbour(1, 0), 2);
        check.due("neighbour(1, 1)", net.neighbour(1, 1), 0);
    }

    @Sentence(in = "Description",
        says = "an edge from v to itself gives its forward end and then its backward end.")
    static void aLoopGivesItsForwardEndFirst(Check check) {
        // The loop's forward end makes a triangle with the end to (1, 1, 0), its backward end with
        // the end to (1, 0, 0); the others make none.
        PeriodicNet net = Nets.of(2, Nets.edge(0, 0, 1, 0), Nets.edge(0, 1, 0, 0),
            Nets.edge(0, 1, 1, 0));
        check.due("ring(0, 0, 3)", net.ring(0, 0, 3), 3);
        check.due("ring(0, 1, 2)", net.ring(0, 1, 2), 3);
        check.due("ring(0, 0, 2)", net.ring(0, 0, 2), -1);
        check.due("ring(0, 1, 3)", net.ring(0, 1, 3), -1);
        net.changeBasis(3);
        check.due("ring(0, 0, 3) when turned", net.ring(0, 0, 3), 3);
        check.due("neighbour(0, 0)", net.neighbour(0, 0), 0);
        check.due("neighbour(0, 1)", net.neighbour(0, 1), 0);
        check.due("neighbour(0, 2)", net.neighbour(0, 2), 1);
    }

    @Sentence(in = "Description", says = "The degree of v is the number of its ends.")
    static void aLoopCountsTwiceInTheDegree(Check check) {
        PeriodicNet net = Nets.of(2, Nets.edge(1, 1, 1, 0), Nets.edge(0, 1, 0, 0));
        check.due("degree(1)", net.degree(1), 3);
        check.due("degree(0)", net.degree(0), 1);
        net.removeEdge(0);
        check.due("degree(1) without the loop", net.degree(1), 1);
    }

    @Sentence(in = "Description", says = "Seen from node (v, i, j), the forward end of an edge from "
        + "v to w with shift (x, y) leads to (w, i + x, j + y);")
    static void aForwardEndLeadsByTheShift(Check check) {
        // Two forward ends at (1, 1, 2) and (1, 2, 2), which the loop of vertex 1 joins.
        PeriodicNet net = Nets.of(2, Nets.edge(0, 1, 1, 2), Nets.edge(0, 1, 2, 2),
            Nets.edge(1, 1, 1, 0));
        check.due("distance(0, 1, 1, 2)", net.distance(0, 1, 1, 2), 1);
        check.due("distance(0, 1, 3, 2)", net.distance(0, 1, 3, 2), 2);
        check.due("distance(0, 1, -1, -2)", net.distance(0, 1, -1, -2), -1);
        check.due("ring(0, 0, 1)", net.ring(0, 0, 1), 3);
    }

    @Sentence(in = "Description", says = "the backward end of an edge from w to v with shift "
        + "(x, y) leads to (w, i - x, j - y).")
    static void aBackwardEndLeadsAgainstTheShift(Check check) {
        PeriodicNet net = Nets.of(2, Nets.edge(1, 0, 1, 2), Nets.edge(0, 1, 0, -2),
            Nets.edge(1, 1, 1, 0));
        check.due("distance(0, 1, -1, -2)", net.distance(0, 1, -1, -2), 1);
        check.due("distance(0, 1, -2, -2)", net.distance(0, 1, -2, -2), 2);
        check.due("distance(0, 1, 1, 2)", net.distance(0, 1, 1, 2), -1);
        check.due("ring(0, 0, 1)", net.ring(0, 0, 1), 3);
    }

    @Sentence(in = "Description",
        says = "The distance of two nodes is the least number of steps from neighbour to neighbour.")
    static void theDistanceIsTheLeast(Check check) {
        PeriodicNet net = Nets.of(1, Nets.edge(0, 0, 1, 0), Nets.edge(0, 0, 2, 0));
        int[] want = {0, 1, 1, 2, 2, 3, 3, 4, 4};
        for (int i = -8; i <= 8; i++) {
            check.due("distance(0, 0, " + i + ", 0)", net.distance(0, 0, i, 0),
                want[Math.abs(i)]);
        }
    }

    @Sentence(in = "Description", says = "The coordination number of order n of a vertex v is the "
        + "number of nodes at distance n from node (v, 0, 0).")
    static void order0IsTheNodeAlone(Check check) {
        for (int v = 0; v < 2; v++) {
            check.due("coordination(" + v + ", 0)", Nets.honeycomb().coordination(v, 0), 1);
            check.due("coordination(" + v + ", 1)", Nets.honeycomb().coordination(v, 1), 3);
        }
        check.due("coordination(0, 0) of a new object", new PeriodicNet().coordination(0, 0), 1);
    }

    // ---- the period lattice

    @Sentence(in = "Description", says = "The period lattice of a vertex v is the set of all pairs "
        + "(i, j) such that node (v, i, j) can be reached from node (v, 0, 0).")
    static void theLatticeIsWhatCanBeReached(Check check) {
        PeriodicNet net = Nets.of(3, Nets.edge(0, 1, 2, 0), Nets.edge(1, 0, 2, 1),
            Nets.edge(2, 2, 1, 0), Nets.edge(1, 1, 0, 2));
        // The periods (4, 1) and (0, 2) at vertices 0 and 1; that of vertex 2 is not theirs.
        int[] index = {8, 8, -1};
        int[] rank = {2, 2, 1};
        for (int v = 0; v < 3; v++) {
            check.due("index(" + v + ")", net.index(v), index[v]);
            check.due("rank(" + v + ")", net.rank(v), rank[v]);
        }
        check.due("distance(0, 0, 4, 1)", net.distance(0, 0, 4, 1), 2);
        check.due("distance(0, 0, 4, 2)", net.distance(0, 0, 4, 2), -1);
        check.due("distance(0, 0, 4, -1)", net.distance(0, 0, 4, -1), 3);
    }

    @Sentence(in = "Description", says = "Its rank is 0, 1 or 2.")
    static void theRankGoesUpWithEachFreePeriod(Check check) {
        PeriodicNet net = new PeriodicNet();
        check.due("rank(0)", net.rank(0), 0);
        net.addEdge(0, 0, 2, -2);
        check.due("rank(0) with (2, -2)", net.rank(0), 1);
        net.addEdge(0, 0, 1, -1);
        check.due("rank(0) with (1, -1)", net.rank(0), 1);
        net.addEdge(0, 0, 1, -2);
        check.due("rank(0) with (1, -2)", net.rank(0), 2);
        net.addEdge(0, 0, 0, 1);
        check.due("rank(0) with (0, 1)", net.rank(0), 2);
    }

    @Sentence(in = "Description", says = "(the absolute value of the determinant of a basis).")
    static void theIndexHasNoSign(Check check) {
        int[][] pairs = {{2, 1, 1, 2, 3}, {1, 2, 2, 1, 3}, {-1, 2, 2, 1, 5}, {2, 1, -1, 2, 5},
            {0, 1, 1, 0, 1}, {2, 2, 2, -2, 8}, {-2, 0, 0, 2, 4}, {1, 0, 2, 2, 2}};
        for (int[] p : pairs) {
            PeriodicNet net = Nets.of(1, Nets.edge(0, 0, p[0], p[1]), Nets.edge(0, 0, p[2], p[3]));
            check.due("index(0)", net.index(0), p[4]);
        }
    }

    @Sentence(in = "Description",
        says = "its index is the number of cosets of the lattice in the set of all integer pairs")
    static void theIndexIsOfAllPeriodsTogether(Check check) {
        PeriodicNet net = Nets.of(1, Nets.edge(0, 0, 2, 0), Nets.edge(0, 0, 0, 2));
        check.due("index(0) of (2, 0), (0, 2)", net.index(0), 4);
        net.addEdge(0, 0, 1, 1);
        check.due("index(0) with (1, 1)", net.index(0), 2);
        // No two of these three periods are a basis: their determinants are 4, 2 and 3.
        PeriodicNet three = Nets.of(1, Nets.edge(0, 0, 2, 0), Nets.edge(0, 0, 1, 2),
            Nets.edge(0, 0, 1, -1));
        check.due("index(0) of (2, 0), (1, 2), (1, -1)", three.index(0), 1);
    }

    // ---- the placement

    @Sentence(in = "Description", says = "The quotient graph is connected if each vertex can be "
        + "reached from vertex 0 over edges, in either direction.")
    static void edgesJoinInEitherDirection(Check check) {
        PeriodicNet net = Nets.of(3, Nets.edge(1, 0, 1, 0), Nets.edge(1, 2, 0, 0));
        check.due("isConnected()", net.isConnected(), 1);
        PeriodicNet other = Nets.of(3, Nets.edge(2, 1, 1, 0), Nets.edge(2, 0, 0, 0));
        check.due("isConnected()", other.isConnected(), 1);
    }

    @Sentence(in = "Description", says = "can be reached from vertex 0 over edges,")
    static void otherPiecesAndLoopsDoNotJoin(Check check) {
        PeriodicNet net = Nets.of(4, Nets.edge(1, 2, 1, 0), Nets.edge(2, 3, 0, 0),
            Nets.edge(0, 0, 1, 0), Nets.edge(3, 1, 0, 0));
        check.due("isConnected() without vertex 0", net.isConnected(), 0);
        net.addEdge(3, 0, 0, 0);
        check.due("isConnected()", net.isConnected(), 1);
        check.due("isConnected() of a new object", new PeriodicNet().isConnected(), 1);
    }

    @Sentence(in = "Description", says = "vertex 0 has the position (0, 0),")
    static void vertex0IsAtZeroWhereverItMoves(Check check) {
        PeriodicNet net = Nets.honeycomb();
        Nets.duePosition(check, net, 0, Nets.at(0, 1, 0, 1));
        net.moveVertex(0, 1, 0);
        Nets.duePosition(check, net, 0, Nets.at(0, 1, 0, 1));
        Nets.duePosition(check, net, 1, Nets.at(4, 3, 1, 3));
        net.addEdge(0, 0, 2, 1);
        Nets.duePosition(check, net, 0, Nets.at(0, 1, 0, 1));
        Nets.duePosition(check, new PeriodicNet(), 0, Nets.at(0, 1, 0, 1));
    }

    /** Looks whether the sum over the ends is 0 at each vertex, in exact numbers. */
    private static void dueConditions(Check check, int vertices, int[]... edges) {
        PeriodicNet net = Nets.of(vertices, edges);
        for (int axis = 0; axis < 2; axis++) {
            long shared = 1;
            for (int v = 0; v < vertices; v++) {
                shared *= net.denominator(v, axis);
            }
            long[] sum = new long[vertices];
            for (int[] e : edges) {
                long from = shared / net.denominator(e[0], axis) * net.numerator(e[0], axis);
                long to = shared / net.denominator(e[1], axis) * net.numerator(e[1], axis);
                sum[e[0]] += to + shared * e[2 + axis] - from;
                sum[e[1]] += from - shared * e[2 + axis] - to;
            }
            for (int v = 0; v < vertices; v++) {
                check.due("the sum at vertex " + v, sum[v], 0);
            }
        }
    }

    @Sentence(in = "Description", says = "for each vertex v the sum over the ends of v of (position "
        + "of the vertex to which the end leads, plus the shift in the direction of the end, minus "
        + "the position of v) is (0, 0).")
    static void theSumAtEachVertexIsZero(Check check) {
        dueConditions(check, 2, Nets.edgesOfAllShifts(0, 1, 3, 12));
        dueConditions(check, 6, Nets.rowEdges(6, 2, -1));
        dueConditions(check, 6, Nets.edge(0, 1, 1, 0), Nets.edge(1, 2, 0, 1),
            Nets.edge(2, 3, -2, 0), Nets.edge(3, 4, 0, 2), Nets.edge(4, 5, 1, 1),
            Nets.edge(5, 0, 2, -2), Nets.edge(0, 3, 0, 0), Nets.edge(1, 4, 1, -1));
        dueConditions(check, 5, Nets.edge(4, 0, 1, 0), Nets.edge(4, 0, 0, 1),
            Nets.edge(3, 4, 1, 2), Nets.edge(3, 2, 0, 1), Nets.edge(2, 4, 0, 0),
            Nets.edge(1, 3, 0, 0), Nets.edge(1, 1, 2, 1), Nets.edge(1, 3, 2, 0),
            Nets.edge(3, 3, 1, 0), Nets.edge(0, 0, 1, 0), Nets.edge(2, 0, 1, 1),
            Nets.edge(1, 2, -1, 0));
    }

    @Sentence(in = "Description", says = "Here the shift in the direction of a forward end is "
        + "(x, y), and that of a backward end is (-x, -y).")
    static void theShiftTurnsWithTheEnd(Check check) {
        Nets.duePosition(check, Nets.of(2, Nets.edge(0, 1, 1, -2)), 1, Nets.at(-1, 1, 2, 1));
        Nets.duePosition(check, Nets.of(2, Nets.edge(1, 0, 1, -2)), 1, Nets.at(1, 1, -2, 1));
        // A loop's two ends take each other away.
        Nets.duePosition(check, Nets.of(2, Nets.edge(1, 0, 1, -2), Nets.edge(1, 1, 2, 2),
            Nets.edge(0, 0, 1, 0)), 1, Nets.at(1, 1, -2, 1));
    }

    @Sentence(in = "Description", says = "These conditions determine all positions.")
    static void sixVerticesInARowAndInARing(Check check) {
        PeriodicNet row = Nets.of(6, Nets.rowEdges(6, -2, 1));
        PeriodicNet ring = Nets.with(Nets.of(6, Nets.rowEdges(6, 0, 0)), Nets.edge(5, 0, -1, 2));
        long[][] at = {Nets.at(0, 1, 0, 1), Nets.at(-1, 6, 1, 3), Nets.at(-1, 3, 2, 3),
            Nets.at(-1, 2, 1, 1), Nets.at(-2, 3, 4, 3), Nets.at(-5, 6, 5, 3)};
        for (int v = 0; v < 6; v++) {
            Nets.duePosition(check, row, v, Nets.at(2 * v, 1, -v, 1));
            Nets.duePosition(check, ring, v, at[v]);
        }
    }

    @Sentence(in = "Description", says = "Fractions are in lowest terms")
    static void fractionsAreLowered(Check check) {
        // Four edges, with the sums 2 and 4 of the shifts along the axes.
        PeriodicNet net = Nets.of(2, Nets.edge(1, 0, 0, 1), Nets.edge(1, 0, 1, 1),
            Nets.edge(1, 0, 1, 0), Nets.edge(1, 0, 0, 2));
        Nets.duePosition(check, net, 1, Nets.at(1, 2, 1, 1));
        net.addEdge(1, 0, -2, 2);
        net.addEdge(1, 0, 2, -2);
        Nets.duePosition(check, net, 1, Nets.at(1, 3, 2, 3));
    }

    @Sentence(in = "Description", says = "with a positive denominator;")
    static void theDenominatorIsPositive(Check check) {
        PeriodicNet net = Nets.of(2, Nets.edge(0, 1, 1, -1), Nets.edge(0, 1, 0, 0));
        Nets.duePosition(check, net, 1, Nets.at(-1, 2, 1, 2));
        net.changeBasis(3);
        Nets.duePosition(check, net, 1, Nets.at(1, 2, 1, 2));
    }

    @Sentence(in = "Description", says = "0 is 0/1.")
    static void zeroIs0Over1(Check check) {
        PeriodicNet net = Nets.of(3, Nets.edge(0, 1, 1, 2), Nets.edge(0, 1, -1, -2),
            Nets.edge(1, 2, 0, 1), Nets.edge(1, 2, 0, 0), Nets.edge(1, 2, 0, -1));
        for (int v = 0; v < 3; v++) {
            Nets.duePosition(check, net, v, Nets.at(0, 1, 0, 1));
        }
    }

    @Sentence(in = "Description", says = "Two different vertices collide if both coordinates of the "
        + "difference of their positions are integers.")
    static void bothCoordinatesMustBeIntegers(Check check) {
        PeriodicNet first = Nets.of(2, Nets.edge(0, 1, 0, 0), Nets.edge(0, 1, 1, 0));
        check.due("collide(0, 1) with 1/2 along axis 0", first.collide(0, 1), 0);
        PeriodicNet second = Nets.of(2, Nets.edge(0, 1, 0, 0), Nets.edge(0, 1, 0, 1));
        check.due("collide(0, 1) with 1/2 along axis 1", second.collide(0, 1), 0);
        PeriodicNet both = Nets.of(2, Nets.edge(0, 1, 0, 0), Nets.edge(0, 1, 2, 2));
        check.due("collide(0, 1) with (1, 1)", both.collide(0, 1), 1);
    }

    @Sentence(in = "Description", says = "both coordinates of the difference of their positions are "
        + "integers.")
    static void theDifferenceCountsNotThePositions(Check check) {
        // Positions (1/2, 0), (1/2, 0) and (-3/2, 2): 0 and whole numbers of either sign apart.
        PeriodicNet net = Nets.of(4, Nets.edge(1, 0, 0, 0), Nets.edge(1, 0, 1, 0),
            Nets.edge(2, 0, 0, 0), Nets.edge(2, 0, 1, 0), Nets.edge(3, 0, -2, 2),
            Nets.edge(3, 0, -1, 2));
        check.due("collide(1, 2)", net.collide(1, 2), 1);
        check.due("collide(2, 3)", net.collide(2, 3), 1);
        check.due("collide(3, 1)", net.collide(3, 1), 1);
        check.due("collide(0, 3)", net.collide(0, 3), 0);
        check.due("collisions()", net.collisions(), 3);
        net.moveVertex(2, 2, -2);
        check.due("collide(2, 3) after moveVertex", net.collide(2, 3), 1);
    }

    @Sentence(in = "Description", says = "both coordinates of the difference of their positions are "
        + "integers.")
    static void theSumOfThePositionsDoesNotCount(Check check) {
        // Vertices 1 and 2 are at (1/3, 1/3), vertex 3 at (2/3, 2/3), vertex 4 at (-2/3, 1/3).
        PeriodicNet net = Nets.of(5);
        int[][] shifts = {{1, 1}, {1, 1}, {2, 2}, {-2, 1}};
        for (int v = 1; v <= 4; v++) {
            int[] s = shifts[v - 1];
            net.addEdge(v, 0, 0, s[1]);
            net.addEdge(v, 0, s[0], 0);
            net.addEdge(v, 0, 0, 0);
        }
        check.due("edges()", net.edges(), 12);
        Nets.duePosition(check, net, 3, Nets.at(2, 3, 2, 3));
        Nets.duePosition(check, net, 4, Nets.at(-2, 3, 1, 3));
        check.due("collide(1, 2)", net.collide(1, 2), 1);
        check.due("collide(1, 3)", net.collide(1, 3), 0);
        check.due("collide(1, 4)", net.collide(1, 4), 1);
        check.due("collide(3, 4)", net.collide(3, 4), 0);
        check.due("collisions()", net.collisions(), 3);
    }

    // ---- rings

    @Sentence(in = "Description", says = "the smallest ring is the least number of nodes of a "
        + "closed way in the net without repeated nodes")
    static void aRingPassesNoNodeTwice(Check check) {
        // Two triangles that share a node only: no ring goes from one to the other.
        PeriodicNet net = Nets.of(5, Nets.edge(0, 1, 0, 0), Nets.edge(1, 2, 0, 0),
            Nets.edge(2, 0, 0, 0), Nets.edge(0, 3, 0, 0), Nets.edge(3, 4, 0, 0),
            Nets.edge(4, 0, 0, 0));
        check.due("ring(0, 0, 1)", net.ring(0, 0, 1), 3);
        check.due("ring(0, 2, 3)", net.ring(0, 2, 3), 3);
        check.due("ring(0, 0, 2)", net.ring(0, 0, 2), -1);
        check.due("ring(0, 1, 3)", net.ring(0, 1, 3), -1);
        // From one neighbour straight to the opposite one it is six nodes round, not four.
        check.due("ring(0, 2, 3) of squares", Nets.square().ring(0, 2, 3), 6);
    }

    @Sentence(in = "Description", says = "the least number of nodes of a closed way")
    static void theShorterOfTwoRingsCounts(Check check) {
        // From 1 to 2 there are a way of one step and one of two.
        PeriodicNet net = Nets.of(4, Nets.edge(0, 1, 0, 0), Nets.edge(0, 2, 0, 0),
            Nets.edge(1, 3, 0, 0), Nets.edge(3, 2, 0, 0));
        check.due("ring(0, 0, 1)", net.ring(0, 0, 1), 4);
        net.addEdge(2, 1, 0, 0);
        check.due("ring(0, 0, 1) with a shorter way", net.ring(0, 0, 1), 3);
        check.due("ring(3, 0, 1)", net.ring(3, 0, 1), 3);
    }

    @Sentence(in = "Description",
        says = "that passes node (v, 0, 0), enters and leaves it by the ends p and q,")
    static void theRingGoesByTheTwoEnds(Check check) {
        PeriodicNet net = Nets.square();
        int[][] want = {{0, 1, 6}, {0, 2, 4}, {0, 3, 4}, {1, 2, 4}, {1, 3, 4}, {2, 3, 6}};
        for (int[] w : want) {
            check.due("ring(0, " + w[0] + ", " + w[1] + ")", net.ring(0, w[0], w[1]), w[2]);
            check.due("ring(0, " + w[1] + ", " + w[0] + ")", net.ring(0, w[1], w[0]), w[2]);
        }
    }

    @Sentence(in = "Description", says = "and has at least 3 nodes.")
    static void noRingHasTwoNodes(Check check) {
        // Two ends to the same vertex: the way there and back is none, whatever the shifts are.
        PeriodicNet net = Nets.of(2, Nets.edge(0, 1, 0, 0), Nets.edge(0, 1, 1, 0));
        check.due("ring(0, 0, 1) of a line", net.ring(0, 0, 1), -1);
        net.addEdge(1, 1, 1, 0);
        check.due("ring(0, 0, 1) of triangles", net.ring(0, 0, 1), 3);
    }

    @Sentence(in = "Description", says = "Only rings with at most 12 nodes are found.")
    static void aRingOf12IsFoundAndOneOf14IsNot(Check check) {
        // Hexagons with one more vertex on each edge; then with two on one of three edges.
        PeriodicNet twelve = Nets.of(5, Nets.edge(0, 2, 0, 0), Nets.edge(2, 1, 0, 0),
            Nets.edge(0, 3, -1, 0), Nets.edge(3, 1, 0, 0), Nets.edge(0, 4, 0, -1),
            Nets.edge(4, 1, 0, 0));
        PeriodicNet fourteen = Nets.of(6, Nets.edge(0, 2, 0, 0), Nets.edge(2, 1, 0, 0),
            Nets.edge(0, 3, -1, 0), Nets.edge(3, 1, 0, 0), Nets.edge(0, 4, 0, -1),
            Nets.edge(4, 5, 0, 0), Nets.edge(5, 1, 0, 0));
        for (int p = 0; p < 3; p++) {
            int q = (p + 1) % 3;
            check.due("ring(0, " + p + ", " + q + ") of 12", twelve.ring(0, p, q), 12);
            check.due("ring(1, " + q + ", " + p + ") of 12", twelve.ring(1, q, p), 12);
            check.due("ring(0, " + p + ", " + q + ") of 14", fourteen.ring(0, p, q), -1);
        }
        check.due("ring(4, 0, 1) of 14", fourteen.ring(4, 0, 1), -1);
        Nets.dueCounters(check, fourteen);
    }

    @Sentence(in = "Description", says = "Only rings with at most 12 nodes are found.")
    static void aRingOf13IsNotFound(Check check) {
        // Rails with steps of two cells and of one, and four vertices on each rung between them.
        PeriodicNet net = Nets.of(6, Nets.edge(0, 0, 2, 0), Nets.edge(5, 5, 1, 0));
        Nets.with(net, Nets.rowEdges(6, 0, 0));
        check.due("ring(0, 0, 2) of 13", net.ring(0, 0, 2), -1);
        PeriodicNet shorter = Nets.of(6, Nets.edge(0, 0, 1, 0), Nets.edge(5, 5, 1, 0));
        Nets.with(shorter, Nets.rowEdges(6, 0, 0));
        check.due("ring(0, 0, 2) of 12", shorter.ring(0, 0, 2), 12);
    }

    @Sentence(in = "Description",
        says = "(Two different ends of a vertex never lead to the same node.)")
    static void endsToOneVertexLeadToDifferentNodes(Check check) {
        PeriodicNet net = Nets.of(2, Nets.edge(0, 1, 1, 1), Nets.edge(0, 0, 1, 1));
        check.due("addEdge(1, 0, -1, -1)", net.addEdge(1, 0, -1, -1), -3);
        check.due("addEdge(0, 0, -1, -1)", net.addEdge(0, 0, -1, -1), -3);
        check.due("coordination(0, 1)", net.coordination(0, 1), net.degree(0));
        check.due("coordination(0, 1) of 12 loops", Nets.loops(12).coordination(0, 1), 24);
        check.due("coordination(1, 1) of 12 edges", Nets.full().coordination(1, 1), 12);
    }

    // ---- undo

    @Sentence(in = "Description", says = "Each successful call of a method whose description says "
        + "\"undoable\" saves the state from before the call,")
    static void eachOfTheFiveMethodsSaves(Check check) {
        PeriodicNet net = new PeriodicNet();
        check.due("reset(2)", net.reset(2), 1);
        check.due("undo()", net.undo(), 0);
        net.reset(2);
        check.due("addEdge(0, 1, 1, 0)", net.addEdge(0, 1, 1, 0), 0);
        check.due("undo()", net.undo(), 1);
        net.addEdge(0, 1, 1, 0);
        check.due("moveVertex(0, 1, 0)", net.moveVertex(0, 1, 0), 1);
        check.due("undo()", net.undo(), 2);
        check.due("changeBasis(0)", net.changeBasis(0), 1);
        check.due("undo()", net.undo(), 2);
        check.due("removeEdge(0)", net.removeEdge(0), 0);
        check.due("undo()", net.undo(), 2);
        Nets.dueGraph(check, net, 2, Nets.edge(0, 1, 1, 0));
    }

    @Sentence(in = "Description", says = "even if the call changes nothing;")
    static void aCallThatChangesNothingSaves(Check check) {
        PeriodicNet net = new PeriodicNet();
        check.due("reset(1)", net.reset(1), 1);
        check.due("moveVertex(0, 0, 0)", net.moveVertex(0, 0, 0), 0);
        check.due("moveVertex(0, 2, 1)", net.moveVertex(0, 2, 1), 0);
        check.due("changeBasis(3)", net.changeBasis(3), 0);
        for (int remain = 3; remain >= 0; remain--) {
            check.due("undo()", net.undo(), remain);
        }
        PeriodicNet loop = Nets.of(1, Nets.edge(0, 0, 2, 0));
        check.due("changeBasis(1)", loop.changeBasis(1), 0);
        check.due("undo()", loop.undo(), 2);
    }

    @Sentence(in = "Description", says = "Each successful call of a method whose description says "
        + "\"undoable\" saves")
    static void refusedCallsSaveNothing(Check check) {
        PeriodicNet net = Nets.of(2, Nets.edge(0, 1, 2, 2));
        long[] answers = {net.reset(0), net.addEdge(0, 0, 0, 0), net.addEdge(1, 0, -2, -2),
            net.removeEdge(1), net.moveVertex(2, 0, 0), net.moveVertex(1, 1, 0),
            net.changeBasis(-1), net.changeBasis(1)};
        long[] want = {-2, -2, -3, -2, -2, -5, -2, -5};
        for (int k = 0; k < want.length; k++) {
            check.due("a refused call", answers[k], want[k]);
        }
        check.due("undo()", net.undo(), 1);
        check.due("edges()", net.edges(), 0);
        PeriodicNet full = Nets.full();
        check.due("addEdge when full", full.addEdge(0, 0, 1, 0), -4);
        check.due("undo()", full.undo(), 4);
        check.due("edges()", full.edges(), 11);
    }

    @Sentence(in = "Description", says = "Each successful call of a method whose description says "
        + "\"undoable\" saves")
    static void callsThatOnlyAskSaveNothing(Check check) {
        PeriodicNet x = new PeriodicNet();
        x.reset(2);
        x.addEdge(0, 1, 0, 0);
        x.addEdge(1, 1, 1, 0);
        long[] answers = {x.findEdge(0, 1, 0, 0), x.vertices(), x.edges(), x.degree(1),
            x.neighbour(1, 0), x.coordination(0, 2), x.distance(0, 1, 1, 0), x.rank(0),
            x.index(0), x.isConnected(), x.ring(1, 0, 1), x.numerator(1, 0),
            x.denominator(1, 0), x.collide(0, 1), x.collisions(), x.positionBits(1, 0),
            x.errorCount(-2)};
        long[] want = {0, 2, 2, 3, 0, 2, 2, 1, -1, 1, -1, 0, 1, 1, 1, 0, 0};
        for (int k = 0; k < want.length; k++) {
            check.due("answer " + k, answers[k], want[k]);
        }
        x.digest();
        check.due("undo()", x.undo(), 2);
        check.due("edges()", x.edges(), 1);
        Nets.dueCounters(check, x);
    }

    @Sentence(in = "Description", says = "at most 5 states are saved,")
    static void fiveStatesAreSavedAndNotSix(Check check) {
        for (int calls = 4; calls <= 7; calls++) {
            PeriodicNet net = new PeriodicNet();
            for (int k = 0; k < calls; k++) {
                net.changeBasis(0);
            }
            for (int remain = Math.min(calls, 5) - 1; remain >= 0; remain--) {
                check.due("undo() after " + calls + " calls", net.undo(), remain);
            }
            check.due("undo() after all", net.undo(), -7);
        }
    }

    @Sentence(in = "Description", says = "and the oldest is dropped first.")
    static void theOldestIsDroppedFirst(Check check) {
        PeriodicNet net = new PeriodicNet();
        for (int k = 0; k < 12; k++) {
            net.addEdge(0, 0, k / 5 - 2, k % 5 - 2);
            if (k == 6) {
                check.due("undo() between", net.undo(), 4);
                net.addEdge(0, 0, -1, -1);
            }
        }
        for (int edges = 11; edges >= 7; edges--) {
            net.undo();
            check.due("edges()", net.edges(), edges);
        }
        check.due("undo()", net.undo(), -7);
        Nets.dueGraph(check, net, 1, Nets.edgesOfAllShifts(0, 0, 0, 7));
    }

    @Sentence(in = "Description", says = "The saved state contains the vertices and the edges.")
    static void theSavedStateHasVerticesAndEdges(Check check) {
        PeriodicNet net = Nets.of(6, Nets.edge(5, 0, 2, -2), Nets.edge(3, 3, -1, 0));
        net.reset(1);
        net.undo();
        Nets.dueState(check, net, 3, Nets.edge(5, 0, 2, -2), Nets.edge(3, 3, -1, 0));
        check.due("neighbour(0, 0)", net.neighbour(0, 0), 5);
        check.due("vertices()", net.vertices(), 6);
    }

    @Sentence(in = "Description", says = "The saved state contains the vertices and the edges.")
    static void theSavedStateHasNoCounters(Check check) {
        PeriodicNet net = new PeriodicNet();
        net.reset(2);
        net.collisions();
        net.reset(3);
        net.degree(3);
        net.undo();
        Nets.dueCounters(check, net, 1, 0, 0, 0, 1);
        net.undo();
        net.undo();
        Nets.dueCounters(check, net, 1, 0, 0, 0, 1, 1);
    }

    // ---- errors

    @Sentence(in = "Description", says = "A call that returns an error code changes nothing except "
        + "that it increments the counter of that code.")
    static void eachErrorCodeIsCountedAndNothingElse(Check check) {
        PeriodicNet net = Nets.of(3, Nets.edge(0, 1, 2, 2));
        check.refused("reset(0)", net, -2, () -> net.reset(0));
        check.refused("addEdge(1, 0, -2, -2)", net, -3, () -> net.addEdge(1, 0, -2, -2));
        check.refused("moveVertex(1, 2, 0)", net, -5, () -> net.moveVertex(1, 2, 0));
        check.refused("collisions()", net, -6, net::collisions);
        PeriodicNet full = Nets.full();
        check.refused("addEdge(0, 0, 1, 0)", full, -4, () -> full.addEdge(0, 0, 1, 0));
        PeriodicNet fresh = new PeriodicNet();
        check.refused("undo()", fresh, -7, fresh::undo);
    }

    @Sentence(in = "Description", says = "A call that returns an error code changes nothing")
    static void eachMethodAnswersAfterAnErrorAsBefore(Check check) {
        PeriodicNet net = Nets.of(3, Nets.edge(0, 1, 0, 1), Nets.edge(1, 0, 1, 1),
            Nets.edge(2, 1, 0, 1), Nets.edge(2, 2, 1, 2));
        long[] before = Nets.answers(net);
        long[] answers = {net.moveVertex(1, 1, 2), net.changeBasis(1), net.reset(7),
            net.addEdge(0, 1, 3, 0), net.addEdge(0, 1, -1, -1), net.removeEdge(4)};
        long[] want = {-5, -5, -2, -2, -3, -2};
        for (int k = 0; k < want.length; k++) {
            check.due("a refused call", answers[k], want[k]);
        }
        Nets.dueAnswers(check, net, before);
        PeriodicNet last = Nets.of(3, Nets.edge(0, 1, 0, 1), Nets.edge(1, 0, 1, 1),
            Nets.edge(2, 1, 0, 1), Nets.edge(2, 2, 1, 2));
        check.due("moveVertex(1, 2, 2)", last.moveVertex(1, 2, 2), -5);
        Nets.dueAnswers(check, last, before);
        check.due("addEdge(0, 2, 0, 0) after an error", last.addEdge(0, 2, 0, 0), 4);
        check.due("removeEdge(4)", last.removeEdge(4), 4);
        Nets.dueAnswers(check, last, before);
    }

    @Sentence(in = "Description", says = "A call that returns an error code changes nothing")
    static void savedStatesOutliveErrors(Check check) {
        PeriodicNet net = new PeriodicNet();
        for (int n = 2; n <= 6; n++) {
            net.reset(n);
            net.reset(n + 10);
            net.addEdge(n, 0, 0, 0);
        }
        for (int n = 5; n >= 1; n--) {
            check.due("undo()", net.undo(), n - 1);
            check.due("vertices()", net.vertices(), n);
            net.removeEdge(0);
            net.changeBasis(9);
        }
        Nets.dueCounters(check, net, 20);
    }

    @Sentence(in = "Description", says = "The checks of a method are made in the order in which its "
        + "error codes are listed.")
    static void addEdgeLooksAtRangesBeforeTheRoom(Check check) {
        PeriodicNet net = Nets.full();
        check.refused("addEdge(2, 0, 0, 0)", net, -2, () -> net.addEdge(2, 0, 0, 0));
        check.refused("addEdge(0, -1, 0, 0)", net, -2, () -> net.addEdge(0, -1, 0, 0));
        check.refused("addEdge(0, 1, 3, 0)", net, -2, () -> net.addEdge(0, 1, 3, 0));
        check.refused("addEdge(0, 1, 0, -3)", net, -2, () -> net.addEdge(0, 1, 0, -3));
        check.refused("addEdge(1, 1, 0, 0)", net, -2, () -> net.addEdge(1, 1, 0, 0));
    }

    @Sentence(in = "Description", says = "The checks of a method are made in the order in which its "
        + "error codes are listed.")
    static void addEdgeLooksAtTheEdgesBeforeTheRoom(Check check) {
        PeriodicNet net = Nets.full();
        for (int[] e : Nets.edgesOfAllShifts(0, 1, 0, 12)) {
            check.refused("addEdge again", net, -3, () -> net.addEdge(0, 1, e[2], e[3]));
            check.refused("addEdge backward", net, -3, () -> net.addEdge(1, 0, -e[2], -e[3]));
        }
        check.refused("addEdge of another", net, -4, () -> net.addEdge(0, 1, 0, 0));
    }

    @Sentence(in = "Description", says = "The checks of a method are made in the order in which its "
        + "error codes are listed.")
    static void moveVertexAndChangeBasisLookAtRangesFirst(Check check) {
        PeriodicNet net = Nets.of(2, Nets.edge(0, 1, 2, 2));
        check.refused("moveVertex(1, 3, 0)", net, -2, () -> net.moveVertex(1, 3, 0));
        check.refused("moveVertex(1, 0, 3)", net, -2, () -> net.moveVertex(1, 0, 3));
        check.refused("moveVertex(0, -3, 1)", net, -2, () -> net.moveVertex(0, -3, 1));
        check.refused("moveVertex(2, 1, 1)", net, -2, () -> net.moveVertex(2, 1, 1));
        check.refused("moveVertex(1, 1, 0)", net, -5, () -> net.moveVertex(1, 1, 0));
        check.refused("changeBasis(4)", net, -2, () -> net.changeBasis(4));
        check.refused("changeBasis(1)", net, -5, () -> net.changeBasis(1));
    }

    @Sentence(in = "Description", says = "The checks of a method are made in the order in which its "
        + "error codes are listed.")
    static void placementLooksAtRangesBeforeThePieces(Check check) {
        PeriodicNet net = Nets.of(2);
        int[][] wrong = {{-1, 0}, {2, 0}, {0, -1}, {1, 2}, {2, 2}};
        for (int[] w : wrong) {
            check.refused("numerator", net, -2, () -> net.numerator(w[0], w[1]));
            check.refused("denominator", net, -2, () -> net.denominator(w[0], w[1]));
            check.refused("positionBits", net, -2, () -> net.positionBits(w[0], w[1]));
        }
        check.refused("numerator(1, 1)", net, -6, () -> net.numerator(1, 1));
        check.refused("denominator(1, 1)", net, -6, () -> net.denominator(1, 1));
        check.refused("positionBits(1, 1)", net, -6, () -> net.positionBits(1, 1));
    }

    @Sentence(in = "Description", says = "The checks of a method are made in the order in which its "
        + "error codes are listed.")
    static void collideLooksAtRangesBeforeThePieces(Check check) {
        PeriodicNet net = Nets.of(2);
        int[][] wrong = {{-1, 0}, {0, -1}, {2, 0}, {1, 2}, {0, 0}, {1, 1}, {2, 2}};
        for (int[] w : wrong) {
            check.refused("collide", net, -2, () -> net.collide(w[0], w[1]));
        }
        check.refused("collide(0, 1)", net, -6, () -> net.collide(0, 1));
    }

    // ---- the examples

    @Sentence(in = "Description", says = "1. The square net: addEdge(0, 0, 1, 0) = 0; "
        + "addEdge(0, 0, 0, 1) = 1; coordination(0, 1) = 4; coordination(0, 2) = 8; ring(0, 0, "
        + "2) = 4; ring(0, 0, 1) = 6; index(0) = 1.")
    static void example1(Check check) {
        PeriodicNet x = new PeriodicNet();
        check.due("addEdge(0, 0, 1, 0)", x.addEdge(0, 0, 1, 0), 0);
        check.due("addEdge(0, 0, 0, 1)", x.addEdge(0, 0, 0, 1), 1);
        check.due("coordination(0, 1)", x.coordination(0, 1), 4);
        check.due("coordination(0, 2)", x.coordination(0, 2), 8);
        check.due("ring(0, 0, 2)", x.ring(0, 0, 2), 4);
        check.due("ring(0, 0, 1)", x.ring(0, 0, 1), 6);
        check.due("index(0)", x.index(0), 1);
    }

    @Sentence(in = "Description", says = "2. The honeycomb net: reset(2) = 1; addEdge(0, 1, 0, "
        + "0) = 0; addEdge(0, 1, -1, 0) = 1; addEdge(0, 1, 0, -1) = 2; coordination(0, 2) = 6; "
        + "numerator(1, 0) = 1; denominator(1, 0) = 3; ring(0, 0, 1) = 6.")
    static void example2(Check check) {
        PeriodicNet x = new PeriodicNet();
        check.due("reset(2)", x.reset(2), 1);
        check.due("addEdge(0, 1, 0, 0)", x.addEdge(0, 1, 0, 0), 0);
        check.due("addEdge(0, 1, -1, 0)", x.addEdge(0, 1, -1, 0), 1);
        check.due("addEdge(0, 1, 0, -1)", x.addEdge(0, 1, 0, -1), 2);
        check.due("coordination(0, 2)", x.coordination(0, 2), 6);
        check.due("numerator(1, 0)", x.numerator(1, 0), 1);
        check.due("denominator(1, 0)", x.denominator(1, 0), 3);
        check.due("ring(0, 0, 1)", x.ring(0, 0, 1), 6);
    }

    @Sentence(in = "Description", says = "3. Another representative of a vertex: reset(2) = 1; "
        + "addEdge(0, 1, 0, 0) = 0; moveVertex(1, 1, 2) = 1; findEdge(0, 1, 1, 2) = 0; "
        + "moveVertex(1, 2, 0) = -5; errorCount(-5) = 1.")
    static void example3(Check check) {
        PeriodicNet x = new PeriodicNet();
        check.due("reset(2)", x.reset(2), 1);
        check.due("addEdge(0, 1, 0, 0)", x.addEdge(0, 1, 0, 0), 0);
        check.due("moveVertex(1, 1, 2)", x.moveVertex(1, 1, 2), 1);
        check.due("findEdge(0, 1, 1, 2)", x.findEdge(0, 1, 1, 2), 0);
        check.due("moveVertex(1, 2, 0)", x.moveVertex(1, 2, 0), -5);
        check.due("errorCount(-5)", x.errorCount(-5), 1);
    }

    @Sentence(in = "Description", says = "4. A period lattice of index 4: addEdge(0, 0, 2, 0) = "
        + "0; addEdge(0, 0, 0, 2) = 1; addEdge(0, 0, -2, 0) = -3; index(0) = 4; distance(0, 0, "
        + "1, 0) = -1.")
    static void example4(Check check) {
        PeriodicNet x = new PeriodicNet();
        check.due("addEdge(0, 0, 2, 0)", x.addEdge(0, 0, 2, 0), 0);
        check.due("addEdge(0, 0, 0, 2)", x.addEdge(0, 0, 0, 2), 1);
        check.due("addEdge(0, 0, -2, 0)", x.addEdge(0, 0, -2, 0), -3);
        check.due("index(0)", x.index(0), 4);
        check.due("distance(0, 0, 1, 0)", x.distance(0, 0, 1, 0), -1);
    }

    @Sentence(in = "Description", says = "5. Errors: reset(3) = 1; numerator(1, 0) = -6; "
        + "addEdge(0, 0, 0, 0) = -2.")
    static void example5(Check check) {
        PeriodicNet x = new PeriodicNet();
        check.due("reset(3)", x.reset(3), 1);
        check.due("numerator(1, 0)", x.numerator(1, 0), -6);
        check.due("addEdge(0, 0, 0, 0)", x.addEdge(0, 0, 0, 0), -2);
    }

    // ---- the constants

    @Sentence(in = "Description", says = "`OUT_OF_RANGE = -2`: An argument is not in its range, or "
        + "there is no such vertex, edge or end.")
    static void outOfRangeIsMinus2(Check check) {
        check.due("OUT_OF_RANGE", PeriodicNet.OUT_OF_RANGE, -2);
        PeriodicNet net = Nets.honeycomb();
        check.due("changeBasis(4)", net.changeBasis(4), PeriodicNet.OUT_OF_RANGE);
        check.due("rank(2)", net.rank(2), PeriodicNet.OUT_OF_RANGE);
        check.due("removeEdge(3)", net.removeEdge(3), PeriodicNet.OUT_OF_RANGE);
        check.due("neighbour(0, 3)", net.neighbour(0, 3), PeriodicNet.OUT_OF_RANGE);
    }

    @Sentence(in = "Description", says = "`EXISTS = -3`: The edge exists already.")
    static void existsIsMinus3(Check check) {
        check.due("EXISTS", PeriodicNet.EXISTS, -3);
        check.due("addEdge", Nets.loops(1).addEdge(0, 0, 2, 2), PeriodicNet.EXISTS);
    }

    @Sentence(in = "Description", says = "`FULL = -4`: There is no more room.")
    static void fullIsMinus4(Check check) {
        check.due("FULL", PeriodicNet.FULL, -4);
        check.due("addEdge", Nets.full().addEdge(0, 1, 0, 0), PeriodicNet.FULL);
    }

    @Sentence(in = "Description",
        says = "`TOO_FAR = -5`: A shift would be less than -2 or greater than 2.")
    static void tooFarIsMinus5(Check check) {
        check.due("TOO_FAR", PeriodicNet.TOO_FAR, -5);
        int[][] ways = {{1, 0}, {-1, 0}, {0, 1}, {0, -1}};
        for (int[] way : ways) {
            PeriodicNet net = Nets.of(2, Nets.edge(1, 0, -2 * way[0], -2 * way[1]));
            check.due("moveVertex to 3", net.moveVertex(1, way[0], way[1]), PeriodicNet.TOO_FAR);
            check.due("moveVertex to 1", net.moveVertex(1, -way[0], -way[1]), 1);
            check.due("moveVertex to 2", net.moveVertex(1, way[0], way[1]), 1);
        }
    }

    @Sentence(in = "Description",
        says = "`NOT_CONNECTED = -6`: The quotient graph is not connected.")
    static void notConnectedIsMinus6(Check check) {
        check.due("NOT_CONNECTED", PeriodicNet.NOT_CONNECTED, -6);
        check.due("collisions()", Nets.of(2).collisions(), PeriodicNet.NOT_CONNECTED);
    }

    @Sentence(in = "Description", says = "`NOTHING_SAVED = -7`: There is no saved state.")
    static void nothingSavedIsMinus7(Check check) {
        check.due("NOTHING_SAVED", PeriodicNet.NOTHING_SAVED, -7);
        check.due("undo()", new PeriodicNet().undo(), PeriodicNet.NOTHING_SAVED);
    }

    @Sentence(in = "Description", says = "`NONE = -1`: There is no such number.")
    static void noneIsMinus1AndNoErrorCode(Check check) {
        check.due("NONE", PeriodicNet.NONE, -1);
        PeriodicNet net = Nets.of(3, Nets.edge(0, 1, 0, 0), Nets.edge(1, 2, 0, 0));
        check.quiet("findEdge(0, 2, 0, 0)", net, -1, () -> net.findEdge(0, 2, 0, 0));
        check.quiet("distance(0, 0, 1, 0)", net, -1, () -> net.distance(0, 0, 1, 0));
        check.quiet("index(0)", net, -1, () -> net.index(0));
        check.quiet("ring(1, 0, 1)", net, -1, () -> net.ring(1, 0, 1));
        check.due("errorCount(-1)", net.errorCount(-1), -2);
    }
}
