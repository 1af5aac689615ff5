/** The boundary cases that promises 12 to 17 name: the net. */
public final class NetSentencesTest {
    private static final int[] NO_VERTEX_OF_TWO = {-1, 2, 6, Integer.MIN_VALUE, 1000,
        Integer.MAX_VALUE};

    private NetSentencesTest() {
    }

    public static void main(String[] args) {
        Sentences.run(NetSentencesTest.class);
    }

    /** Two rows of nodes along the first axis, with steps of these shifts. */
    private static PeriodicNet lines(int x, int y) {
        return Nets.of(2, Nets.edge(0, 0, x, y), Nets.edge(1, 1, x, y));
    }

    // ---- promise 12

    @Sentence(in = "Promise 12", says = "`v`: a vertex")
    static void p12TakesTheFirstAndTheLastVertex(Check check) {
        PeriodicNet net = Nets.with(Nets.row(6), Nets.edge(5, 5, 1, 0), Nets.edge(0, 0, 0, 1),
            Nets.edge(0, 0, 0, 2));
        check.due("coordination(0, 1)", net.coordination(0, 1), 5);
        check.due("coordination(5, 1)", net.coordination(5, 1), 3);
        check.due("coordination(4, 1)", net.coordination(4, 1), 2);
    }

    @Sentence(in = "Promise 12", says = "`n`: order, 0 to 8")
    static void p12TakesOrder0(Check check) {
        PeriodicNet net = new PeriodicNet();
        check.quiet("coordination(0, 0) alone", net, 1, () -> net.coordination(0, 0));
        check.due("coordination(0, 0) of 12 loops", Nets.loops(12).coordination(0, 0), 1);
        check.due("coordination(5, 0) of a row", Nets.row(6).coordination(5, 0), 1);
    }

    @Sentence(in = "Promise 12", says = "`n`: order, 0 to 8")
    static void p12TakesOrder8(Check check) {
        PeriodicNet net = Nets.square();
        check.quiet("coordination(0, 8)", net, 32, () -> net.coordination(0, 8));
        check.due("coordination(0, 8) of a line", lines(0, 1).coordination(0, 8), 2);
    }

    @Sentence(in = "Promise 12", says = "Returns the number of nodes at distance n;")
    static void p12CountsUpToCell16(Check check) {
        // Each step goes to one of the 24 cells around, so order n is a frame two cells wide.
        PeriodicNet net = Nets.loops(12);
        for (int n = 1; n <= 8; n++) {
            check.due("coordination(0, " + n + ")", net.coordination(0, n), 32 * n - 8);
        }
    }

    @Sentence(in = "Promise 12", says = "Returns the number of nodes at distance n;")
    static void p12CountsFarAlongEachAxis(Check check) {
        int[][] shifts = {{2, 0}, {0, 2}, {2, 2}, {2, -2}, {-2, 1}};
        for (int[] s : shifts) {
            PeriodicNet net = lines(s[0], s[1]);
            for (int n = 1; n <= 8; n++) {
                check.due("coordination(1, " + n + ") of a line", net.coordination(1, n), 2);
            }
        }
    }

    @Sentence(in = "Promise 12", says = "Returns the number of nodes at distance n;")
    static void p12AnswersZeroPastTheLastNode(Check check) {
        PeriodicNet net = Nets.row(6);
        int[] fromEnd = {1, 1, 1, 1, 1, 1, 0, 0, 0};
        int[] fromThird = {1, 2, 2, 1, 0, 0, 0, 0, 0};
        for (int n = 0; n <= 8; n++) {
            check.due("coordination(0, " + n + ")", net.coordination(0, n), fromEnd[n]);
            check.due("coordination(2, " + n + ")", net.coordination(2, n), fromThird[n]);
            check.due("coordination alone", new PeriodicNet().coordination(0, n), n == 0 ? 1 : 0);
        }
    }

    @Sentence(in = "Promise 12", says = "Returns the number of nodes at distance n;")
    static void p12CountsEachNodeOnce(Check check) {
        // (2, 0) is reached by one step of two cells and by two steps of one.
        PeriodicNet net = Nets.of(1, Nets.edge(0, 0, 1, 0), Nets.edge(0, 0, 2, 0));
        check.due("coordination(0, 1)", net.coordination(0, 1), 4);
        check.due("coordination(0, 2)", net.coordination(0, 2), 4);
        check.due("coordination(0, 8)", net.coordination(0, 8), 4);
    }

    @Sentence(in = "Promise 12", says = "OUT_OF_RANGE if an argument is out of range.")
    static void p12RefusesOrdersMinus1And9(Check check) {
        PeriodicNet net = Nets.honeycomb();
        for (int n : new int[] {-1, 9, -8, 16}) {
            check.refused("coordination(0, " + n + ")", net, -2, () -> net.coordination(0, n));
        }
        for (int n : Nets.FAR) {
            check.refused("coordination(0, " + n + ")", net, -2, () -> net.coordination(0, n));
        }
    }

    @Sentence(in = "Promise 12", says = "OUT_OF_RANGE if an argument is out of range.")
    static void p12RefusesAVertexThatIsNone(Check check) {
        PeriodicNet net = Nets.honeycomb();
        for (int v : NO_VERTEX_OF_TWO) {
            check.refused("coordination(" + v + ", 0)", net, -2, () -> net.coordination(v, 0));
        }
        PeriodicNet six = Nets.row(6);
        check.refused("coordination(6, 8) of 6", six, -2, () -> six.coordination(6, 8));
    }

    // ---- promise 13

    @Sentence(in = "Promise 13", says = "Returns the distance of a node from node (v, 0, 0).")
    static void p13AnswersZeroForTheNodeItself(Check check) {
        PeriodicNet net = Nets.row(6);
        for (int v = 0; v < 6; v++) {
            int at = v;
            check.quiet("distance to itself", net, 0, () -> net.distance(at, at, 0, 0));
        }
        check.due("distance alone", new PeriodicNet().distance(0, 0, 0, 0), 0);
    }

    @Sentence(in = "Promise 13", says = "Returns the distance of a node from node (v, 0, 0).")
    static void p13CountsFromTheFirstVertex(Check check) {
        PeriodicNet net = Nets.of(2, Nets.edge(0, 1, 2, -1));
        check.due("distance(0, 1, 2, -1)", net.distance(0, 1, 2, -1), 1);
        check.due("distance(1, 0, -2, 1)", net.distance(1, 0, -2, 1), 1);
        check.due("distance(0, 1, -2, 1)", net.distance(0, 1, -2, 1), -1);
        check.due("distance(1, 0, 2, -1)", net.distance(1, 0, 2, -1), -1);
        check.due("distance(0, 1, 0, 0)", net.distance(0, 1, 0, 0), -1);
    }

    @Sentence(in = "Promise 13", says = "`v`: a vertex")
    static void p13TakesTheFirstAndTheLastVertexAsV(Check check) {
        PeriodicNet net = Nets.row(6);
        check.due("distance(0, 1, 0, 0)", net.distance(0, 1, 0, 0), 1);
        check.due("distance(5, 1, 0, 0)", net.distance(5, 1, 0, 0), 4);
    }

    @Sentence(in = "Promise 13", says = "`w`: a vertex")
    static void p13TakesTheFirstAndTheLastVertexAsW(Check check) {
        PeriodicNet net = Nets.row(6);
        check.due("distance(3, 0, 0, 0)", net.distance(3, 0, 0, 0), 3);
        check.due("distance(3, 5, 0, 0)", net.distance(3, 5, 0, 0), 2);
    }

    @Sentence(in = "Promise 13", says = "`i`: first coordinate of the cell of w, -8 to 8")
    static void p13TakesIFromMinus8To8(Check check) {
        PeriodicNet net = lines(1, 0);
        for (int i = -8; i <= 8; i++) {
            check.due("distance(1, 1, " + i + ", 0)", net.distance(1, 1, i, 0), Math.abs(i));
            check.due("distance(1, 1, " + i + ", 1)", net.distance(1, 1, i, 1), -1);
        }
        Nets.dueCounters(check, net);
    }

    @Sentence(in = "Promise 13", says = "`j`: second coordinate of the cell of w, -8 to 8")
    static void p13TakesJFromMinus8To8(Check check) {
        PeriodicNet net = lines(0, 1);
        for (int j = -8; j <= 8; j++) {
            check.due("distance(1, 1, 0, " + j + ")", net.distance(1, 1, 0, j), Math.abs(j));
            check.due("distance(1, 1, -1, " + j + ")", net.distance(1, 1, -1, j), -1);
        }
        Nets.dueCounters(check, net);
    }

    @Sentence(in = "Promise 13", says = "Returns the distance of node (w, i, j) if it is at most 8;")
    static void p13Answers8AtTheCorners(Check check) {
        PeriodicNet net = Nets.of(1, Nets.edge(0, 0, 1, 1), Nets.edge(0, 0, 1, -1));
        for (int i = -8; i <= 8; i += 16) {
            for (int j = -8; j <= 8; j += 16) {
                check.due("distance(0, 0, " + i + ", " + j + ")", net.distance(0, 0, i, j), 8);
            }
        }
        check.due("distance(0, 0, 8, 0)", net.distance(0, 0, 8, 0), 8);
        check.due("distance(0, 0, 7, -7)", net.distance(0, 0, 7, -7), 7);
        check.due("distance(0, 0, 8, 8) of 12 loops", Nets.loops(12).distance(0, 0, 8, 8), 4);
    }

    @Sentence(in = "Promise 13", says = "Returns the distance of node (w, i, j) if it is at most 8;")
    static void p13CountsAWayPastCell8(Check check) {
        // Vertex 5 is reached by way of cell 10 alone, and only from there come its other nodes.
        for (int sign = -1; sign <= 1; sign += 2) {
            PeriodicNet net = Nets.with(Nets.of(6, Nets.rowEdges(6, 2 * sign, 0)),
                Nets.edge(5, 5, 2, 0));
            check.due("distance of cell 8", net.distance(0, 5, 8 * sign, 0), 6);
            check.due("distance of cell 6", net.distance(0, 5, 6 * sign, 0), 7);
            check.due("distance of cell 4", net.distance(0, 5, 4 * sign, 0), 8);
            check.due("distance of cell 2", net.distance(0, 5, 2 * sign, 0), -1);
            net.changeBasis(0);
            check.due("distance of cell (0, 4)", net.distance(0, 5, 0, 4 * sign), 8);
            check.due("distance of cell (0, 2)", net.distance(0, 5, 0, 2 * sign), -1);
        }
    }

    @Sentence(in = "Promise 13", says = "NONE if it is greater")
    static void p13AnswersNoneFor9(Check check) {
        PeriodicNet net = Nets.square();
        int[][] near = {{8, 0}, {7, 1}, {-4, 4}, {0, -8}, {-1, -7}};
        for (int[] c : near) {
            check.quiet("distance 8", net, 8, () -> net.distance(0, 0, c[0], c[1]));
        }
        int[][] far = {{8, 1}, {7, 2}, {-5, 4}, {-1, -8}, {8, 8}, {-8, 8}};
        for (int[] c : far) {
            check.quiet("distance 9 or more", net, -1, () -> net.distance(0, 0, c[0], c[1]));
        }
    }

    @Sentence(in = "Promise 13", says = "or the node cannot be reached;")
    static void p13AnswersNoneForWhatCannotBeReached(Check check) {
        PeriodicNet net = Nets.of(3, Nets.edge(0, 0, 2, 0), Nets.edge(0, 1, 0, 0));
        check.quiet("another piece", net, -1, () -> net.distance(0, 2, 0, 0));
        check.quiet("from another piece", net, -1, () -> net.distance(2, 0, 0, 0));
        check.quiet("between its nodes", net, -1, () -> net.distance(0, 0, 1, 0));
        check.quiet("another row", net, -1, () -> net.distance(0, 1, 0, 1));
        check.quiet("another cell of a lone vertex", net, -1, () -> net.distance(2, 2, 0, -1));
        check.due("what can be reached", net.distance(1, 1, 2, 0), 3);
    }

    @Sentence(in = "Promise 13", says = "OUT_OF_RANGE if an argument is out of range.")
    static void p13RefusesCellsMinus9And9(Check check) {
        PeriodicNet net = Nets.square();
        for (int far : new int[] {-9, 9, Integer.MIN_VALUE, -1000, 1000, Integer.MAX_VALUE}) {
            check.refused("distance(0, 0, " + far + ", 0)", net, -2,
                () -> net.distance(0, 0, far, 0));
            check.refused("distance(0, 0, 0, " + far + ")", net, -2,
                () -> net.distance(0, 0, 0, far));
        }
    }

    @Sentence(in = "Promise 13", says = "OUT_OF_RANGE if an argument is out of range.")
    static void p13RefusesVerticesThatAreNone(Check check) {
        PeriodicNet net = Nets.honeycomb();
        for (int v : NO_VERTEX_OF_TWO) {
            check.refused("distance(" + v + ", 0, 0, 0)", net, -2,
                () -> net.distance(v, 0, 0, 0));
            check.refused("distance(0, " + v + ", 0, 0)", net, -2,
                () -> net.distance(0, v, 0, 0));
            check.refused("distance of one to itself", net, -2, () -> net.distance(v, v, 0, 0));
        }
    }

    // ---- promise 14

    @Sentence(in = "Promise 14", says = "`v`: a vertex")
    static void p14TakesTheFirstAndTheLastVertex(Check check) {
        PeriodicNet net = Nets.of(6, Nets.edge(0, 0, 1, 0), Nets.edge(5, 5, 1, 0),
            Nets.edge(5, 5, 1, 1));
        check.due("rank(0)", net.rank(0), 1);
        check.due("rank(4)", net.rank(4), 0);
        check.due("rank(5)", net.rank(5), 2);
    }

    @Sentence(in = "Promise 14", says = "Returns 0, 1 or 2;")
    static void p14Answers0(Check check) {
        PeriodicNet net = new PeriodicNet();
        check.quiet("rank(0) alone", net, 0, () -> net.rank(0));
        check.due("rank(5) of a row", Nets.of(6, Nets.rowEdges(6, 2, -2)).rank(5), 0);
        // A cycle that comes back to its cell is no period.
        PeriodicNet cycle = Nets.of(3, Nets.edge(0, 1, 1, 0), Nets.edge(1, 2, 1, 2),
            Nets.edge(0, 2, 2, 2));
        check.due("rank(1) of a cycle", cycle.rank(1), 0);
        check.due("index(1) of a cycle", cycle.index(1), -1);
    }

    @Sentence(in = "Promise 14", says = "Returns 0, 1 or 2;")
    static void p14Answers1(Check check) {
        for (int[] s : Nets.edgesOfAllShifts(0, 0, 0, 12)) {
            PeriodicNet net = Nets.of(1, s);
            check.quiet("rank(0) of one loop", net, 1, () -> net.rank(0));
        }
        PeriodicNet parallel = Nets.of(1, Nets.edge(0, 0, 1, -1), Nets.edge(0, 0, -2, 2));
        check.due("rank(0) of parallel loops", parallel.rank(0), 1);
        PeriodicNet flat = Nets.of(2, Nets.edge(0, 1, 2, 0), Nets.edge(0, 1, -1, 0),
            Nets.edge(1, 1, 2, 0), Nets.edge(0, 0, 1, 0));
        check.due("rank(1) of periods along one axis", flat.rank(1), 1);
    }

    @Sentence(in = "Promise 14", says = "Returns 0, 1 or 2;")
    static void p14Answers2(Check check) {
        PeriodicNet net = Nets.honeycomb();
        check.quiet("rank(1) of hexagons", net, 2, () -> net.rank(1));
        check.due("rank(0) of 12 loops", Nets.loops(12).rank(0), 2);
        // The last two periods alone are not parallel.
        PeriodicNet late = Nets.of(1, Nets.edge(0, 0, 1, 1), Nets.edge(0, 0, 2, 2),
            Nets.edge(0, 0, 2, 1));
        check.due("rank(0) of a late period", late.rank(0), 2);
    }

    @Sentence(in = "Promise 14", says = "Returns the rank of the period lattice of a vertex.")
    static void p14AnswersForEachPieceApart(Check check) {
        PeriodicNet net = Nets.of(6, Nets.edge(1, 1, 1, 0), Nets.edge(2, 2, 1, 0),
            Nets.edge(2, 2, 0, 1), Nets.edge(4, 5, 0, 0), Nets.edge(5, 5, 0, 2));
        int[] rank = {0, 1, 2, 0, 1, 1};
        for (int v = 0; v < 6; v++) {
            check.due("rank(" + v + ")", net.rank(v), rank[v]);
        }
    }

    @Sentence(in = "Promise 14", says = "OUT_OF_RANGE if there is no such vertex.")
    static void p14RefusesAVertexThatIsNone(Check check) {
        PeriodicNet net = Nets.honeycomb();
        for (int v : NO_VERTEX_OF_TWO) {
            check.refused("rank(" + v + ")", net, -2, () -> net.rank(v));
        }
        PeriodicNet six = Nets.row(6);
        check.refused("rank(6) of 6", six, -2, () -> six.rank(6));
    }

    // ---- promise 15

    @Sentence(in = "Promise 15", says = "`v`: a vertex")
    static void p15TakesTheFirstAndTheLastVertex(Check check) {
        PeriodicNet net = Nets.of(6, Nets.edge(0, 0, 1, 0), Nets.edge(0, 0, 0, 1),
            Nets.edge(5, 5, 2, 0), Nets.edge(5, 5, 1, 1));
        check.due("index(0)", net.index(0), 1);
        check.due("index(4)", net.index(4), -1);
        check.due("index(5)", net.index(5), 2);
    }

    @Sentence(in = "Promise 15", says = "Returns the index;")
    static void p15AnswersFrom1UpTo96(Check check) {
        PeriodicNet net = Nets.square();
        check.quiet("index(0) of squares", net, 1, () -> net.index(0));
        // Two ways round that share vertex 0: the periods (8, 8) and (-6, 6).
        PeriodicNet large = Nets.of(6, Nets.edge(0, 1, 2, 2), Nets.edge(1, 2, 2, 2),
            Nets.edge(2, 3, 2, 2), Nets.edge(3, 0, 2, 2), Nets.edge(0, 4, -2, 2),
            Nets.edge(4, 5, -2, 2), Nets.edge(5, 0, -2, 2));
        for (int v = 0; v < 6; v++) {
            int at = v;
            check.quiet("index(" + v + ")", large, 96, () -> large.index(at));
        }
    }

    @Sentence(in = "Promise 15", says = "Returns the index;")
    static void p15ComesDownWithEachFinerPeriod(Check check) {
        PeriodicNet net = Nets.of(1, Nets.edge(0, 0, 2, 2), Nets.edge(0, 0, -2, 2));
        check.due("index(0)", net.index(0), 8);
        net.addEdge(0, 0, 2, 0);
        check.due("index(0) with (2, 0)", net.index(0), 4);
        net.addEdge(0, 0, 1, 1);
        check.due("index(0) with (1, 1)", net.index(0), 2);
        net.addEdge(0, 0, 0, 1);
        check.due("index(0) with (0, 1)", net.index(0), 1);
    }

    @Sentence(in = "Promise 15", says = "NONE if the rank is less than 2;")
    static void p15AnswersNoneForRanks0And1(Check check) {
        PeriodicNet net = Nets.of(3, Nets.edge(1, 1, 1, 2), Nets.edge(2, 2, 2, 2),
            Nets.edge(2, 2, -1, -1));
        for (int v = 0; v < 3; v++) {
            int at = v;
            check.quiet("index(" + v + ")", net, -1, () -> net.index(at));
        }
        check.due("index(0) of a new object", new PeriodicNet().index(0), -1);
    }

    @Sentence(in = "Promise 15", says = "Returns the index of the period lattice of a vertex.")
    static void p15AnswersForEachPieceApart(Check check) {
        PeriodicNet net = Nets.of(6, Nets.edge(0, 0, 1, 0), Nets.edge(0, 0, 0, 2),
            Nets.edge(5, 5, 2, 1), Nets.edge(5, 5, -1, 2), Nets.edge(4, 3, 1, 1));
        int[] index = {2, -1, -1, -1, -1, 5};
        for (int v = 0; v < 6; v++) {
            check.due("index(" + v + ")", net.index(v), index[v]);
        }
    }

    @Sentence(in = "Promise 15", says = "OUT_OF_RANGE if there is no such vertex.")
    static void p15RefusesAVertexThatIsNone(Check check) {
        PeriodicNet net = Nets.honeycomb();
        for (int v : NO_VERTEX_OF_TWO) {
            check.refused("index(" + v + ")", net, -2, () -> net.index(v));
        }
        PeriodicNet one = new PeriodicNet();
        check.refused("index(1) of a new object", one, -2, () -> one.index(1));
    }

    // ---- promise 16

    @Sentence(in = "Promise 16", says = "Returns 1 if it is, 0 if it is not.")
    static void p16Answers1ForOneVertex(Check check) {
        PeriodicNet net = new PeriodicNet();
        check.quiet("isConnected() of a new object", net, 1, net::isConnected);
        net.addEdge(0, 0, 1, 0);
        check.quiet("isConnected() with a loop", net, 1, net::isConnected);
    }

    @Sentence(in = "Promise 16", says = "Returns 1 if it is, 0 if it is not.")
    static void p16Answers0FromTwoVerticesWithoutEdgesOn(Check check) {
        PeriodicNet net = new PeriodicNet();
        for (int n = 2; n <= 6; n++) {
            net.reset(n);
            check.quiet("isConnected() of " + n + " without edges", net, 0, net::isConnected);
        }
    }

    @Sentence(in = "Promise 16", says = "Returns 1 if it is, 0 if it is not.")
    static void p16TurnsWithTheLastEdge(Check check) {
        PeriodicNet net = new PeriodicNet();
        net.reset(6);
        for (int v = 4; v >= 0; v--) {
            check.due("isConnected() before the last", net.isConnected(), 0);
            net.addEdge(v, v + 1, 0, 0);
        }
        check.due("isConnected() of a row", net.isConnected(), 1);
        for (int edge = 0; edge < 5; edge++) {
            net.removeEdge(edge);
            check.due("isConnected() without an edge", net.isConnected(), 0);
            net.undo();
            check.due("isConnected() after undo", net.isConnected(), 1);
        }
    }

    @Sentence(in = "Promise 16", says = "Tells whether the quotient graph is connected.")
    static void p16AsksForTheGraphNotForTheNet(Check check) {
        // Only cells with even numbers are joined in this net, but the graph is connected.
        PeriodicNet net = Nets.of(2, Nets.edge(0, 1, 0, 0), Nets.edge(1, 1, 2, 0));
        check.due("isConnected() of a net in pieces", net.isConnected(), 1);
        check.due("distance(0, 0, 1, 0)", net.distance(0, 0, 1, 0), -1);
    }

    // ---- promise 17

    /**
     * Vertices 0 and 1, joined by a way with some vertices more (the rung). Vertex 0 has a loop
     * that skips some cells, and vertex 1 a way to the next cell with some vertices more (the rail).
     * The smallest ring through the loop and the rung goes over two rungs and along the rail.
     */
    private static PeriodicNet ladder(int rung, int rail, int skip) {
        PeriodicNet net = Nets.of(2 + rung + rail, Nets.edge(0, 0, skip, 0));
        int from = 0;
        for (int k = 0; k < rung; k++) {
            net.addEdge(from, 2 + k, 0, 0);
            from = 2 + k;
        }
        net.addEdge(from, 1, 0, 0);
        from = 1;
        for (int k = 0; k < rail; k++) {
            net.addEdge(from, 2 + rung + k, 0, 0);
            from = 2 + rung + k;
        }
        net.addEdge(from, 1, 1, 0);
        return net;
    }

    private static void dueRing(Check check, PeriodicNet net, int v, int p, int q, int want) {
        check.quiet("ring(" + v + ", " + p + ", " + q + ")", net, want, () -> net.ring(v, p, q));
        check.quiet("ring(" + v + ", " + q + ", " + p + ")", net, want, () -> net.ring(v, q, p));
    }

    @Sentence(in = "Promise 17",
        says = "Returns the number of nodes of the smallest ring, 3 to 12;")
    static void p17Answers3(Check check) {
        PeriodicNet net = Nets.of(3, Nets.edge(0, 1, 0, 0), Nets.edge(1, 2, 0, 0),
            Nets.edge(2, 0, 0, 0));
        for (int v = 0; v < 3; v++) {
            dueRing(check, net, v, 0, 1, 3);
        }
        // The nodes (0, 0), (1, 0), (2, 0) of a single vertex.
        PeriodicNet loops = Nets.of(1, Nets.edge(0, 0, 1, 0), Nets.edge(0, 0, 2, 0));
        dueRing(check, loops, 0, 0, 2, 3);
        dueRing(check, loops, 0, 0, 1, 3);
        dueRing(check, loops, 0, 1, 3, 3);
    }

    @Sentence(in = "Promise 17",
        says = "Returns the number of nodes of the smallest ring, 3 to 12;")
    static void p17AnswersEachFrom4To12(Check check) {
        int[][] ladders = {{0, 0, 1}, {0, 0, 2}, {1, 0, 1}, {1, 1, 1}, {2, 0, 1}, {2, 1, 1},
            {3, 0, 1}, {3, 1, 1}, {4, 0, 1}};
        for (int k = 0; k < ladders.length; k++) {
            PeriodicNet net = ladder(ladders[k][0], ladders[k][1], ladders[k][2]);
            dueRing(check, net, 0, 0, 2, 4 + k);
            dueRing(check, net, 0, 1, 2, 4 + k);
        }
    }

    @Sentence(in = "Promise 17",
        says = "Returns the number of nodes of the smallest ring, 3 to 12;")
    static void p17Answers12ForARingOutToCell12(Check check) {
        int[][] shifts = {{2, 0}, {-2, 0}, {0, 2}, {0, -2}, {2, 2}, {-2, -2}, {2, -2}, {-2, 2}};
        for (int[] s : shifts) {
            // Six steps out and six back, one row beside the other.
            PeriodicNet net = Nets.of(6, Nets.edge(0, 0, s[0], s[1]));
            Nets.with(net, Nets.rowEdges(6, s[0], s[1]));
            Nets.with(net, Nets.edge(5, 5, s[0], s[1]));
            dueRing(check, net, 0, 0, 2, 12);
        }
    }

    @Sentence(in = "Promise 17", says = "`v`: a vertex")
    static void p17TakesTheFirstAndTheLastVertex(Check check) {
        PeriodicNet net = Nets.with(Nets.row(6), Nets.edge(5, 0, 0, 0));
        for (int v = 0; v < 6; v++) {
            dueRing(check, net, v, 0, 1, 6);
        }
    }

    @Sentence(in = "Promise 17", says = "`p`: index of an end of v")
    static void p17TakesTheFirstAndTheLastEnd(Check check) {
        PeriodicNet net = Nets.loops(12);
        // Ends 0 and 23 are the steps (-2, -2) and (0, 1); ends 0 and 1 lead opposite ways, and
        // two steps from one to the other would pass the node between them.
        dueRing(check, net, 0, 0, 23, 4);
        dueRing(check, net, 0, 0, 1, 5);
        dueRing(check, net, 0, 22, 23, 3);
    }

    @Sentence(in = "Promise 17", says = "`q`: index of another end of v")
    static void p17TakesEachOtherEnd(Check check) {
        PeriodicNet net = Nets.loops(12);
        for (int p = 0; p < 24; p += 23) {
            for (int q = 0; q < 24; q++) {
                int ring = net.ring(0, p, q);
                check.holds("ring(0, " + p + ", " + q + ") of 3 to 5 nodes",
                    p == q ? ring == -2 : ring >= 3 && ring <= 5);
            }
        }
    }

    @Sentence(in = "Promise 17", says = "NONE if no such ring is found;")
    static void p17AnswersNoneWithoutARing(Check check) {
        dueRing(check, Nets.row(3), 1, 0, 1, -1);
        dueRing(check, lines(1, 0), 0, 0, 1, -1);
        // Vertex 1 hangs on vertex 0: no way leads back from it.
        PeriodicNet hung = Nets.of(2, Nets.edge(0, 0, 1, 0), Nets.edge(0, 0, 0, 1),
            Nets.edge(0, 1, 0, 0));
        dueRing(check, hung, 0, 0, 4, -1);
        dueRing(check, hung, 0, 0, 2, 4);
    }

    @Sentence(in = "Promise 17", says = "NONE if no such ring is found;")
    static void p17AnswersNoneFor13(Check check) {
        dueRing(check, ladder(4, 0, 2), 0, 0, 2, -1);
        dueRing(check, ladder(3, 1, 2), 0, 1, 2, -1);
        dueRing(check, ladder(3, 0, 2), 0, 0, 2, 11);
    }

    @Sentence(in = "Promise 17", says = "OUT_OF_RANGE if there is no such vertex")
    static void p17RefusesAVertexThatIsNone(Check check) {
        PeriodicNet net = Nets.honeycomb();
        for (int v : NO_VERTEX_OF_TWO) {
            check.refused("ring(" + v + ", 0, 1)", net, -2, () -> net.ring(v, 0, 1));
        }
    }

    @Sentence(in = "Promise 17", says = "OUT_OF_RANGE if there is no such vertex or end,")
    static void p17RefusesAnEndThatIsNone(Check check) {
        PeriodicNet net = Nets.honeycomb();
        for (int end : new int[] {-1, 3, 24, Integer.MIN_VALUE, 1000, Integer.MAX_VALUE}) {
            check.refused("ring(0, " + end + ", 1)", net, -2, () -> net.ring(0, end, 1));
            check.refused("ring(1, 2, " + end + ")", net, -2, () -> net.ring(1, 2, end));
        }
    }

    @Sentence(in = "Promise 17", says = "OUT_OF_RANGE if there is no such vertex or end,")
    static void p17RefusesAllEndsOfAVertexWithout(Check check) {
        PeriodicNet net = Nets.of(3, Nets.edge(0, 1, 0, 0));
        check.refused("ring(2, 0, 1)", net, -2, () -> net.ring(2, 0, 1));
        check.refused("ring(0, 0, 1) of one end", net, -2, () -> net.ring(0, 0, 1));
        check.refused("ring(0, 1, 0) of one end", net, -2, () -> net.ring(0, 1, 0));
    }

    @Sentence(in = "Promise 17", says = "or p equals q.")
    static void p17RefusesAnEndTwice(Check check) {
        PeriodicNet net = Nets.honeycomb();
        for (int end = 0; end < 3; end++) {
            int twice = end;
            check.refused("ring with one end", net, -2, () -> net.ring(0, twice, twice));
            check.refused("ring with one end", net, -2, () -> net.ring(1, twice, twice));
        }
    }
}
