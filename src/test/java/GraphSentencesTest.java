/** The boundary cases that promises 1 to 11 name: the quotient graph. */
public final class GraphSentencesTest {
    private GraphSentencesTest() {
    }

    public static void main(String[] args) {
        Sentences.run(GraphSentencesTest.class);
    }

    // ---- promise 1

    @Sentence(in = "Promise 1", says = "Creates a net with one vertex")
    static void p01HasOneVertex(Check check) {
        PeriodicNet net = new PeriodicNet();
        check.due("vertices()", net.vertices(), 1);
        check.due("degree(0)", net.degree(0), 0);
        check.due("degree(1)", net.degree(1), -2);
        check.due("isConnected()", new PeriodicNet().isConnected(), 1);
    }

    @Sentence(in = "Promise 1", says = "and no edges.")
    static void p01HasNoEdges(Check check) {
        PeriodicNet net = new PeriodicNet();
        check.due("edges()", net.edges(), 0);
        check.due("neighbour(0, 0)", net.neighbour(0, 0), -2);
        check.due("findEdge(0, 0, 1, 0)", net.findEdge(0, 0, 1, 0), -1);
        check.due("removeEdge(0)", net.removeEdge(0), -2);
        check.due("coordination(0, 1)", net.coordination(0, 1), 0);
    }

    @Sentence(in = "Promise 1", says = "Creates a net")
    static void p01HasNoErrorsAndNothingSaved(Check check) {
        PeriodicNet net = new PeriodicNet();
        Nets.dueCounters(check, net);
        check.due("undo()", net.undo(), -7);
    }

    @Sentence(in = "Promise 1", says = "Creates a net")
    static void p01SharesNothingWithOtherObjects(Check check) {
        PeriodicNet first = new PeriodicNet();
        first.reset(2);
        first.addEdge(0, 1, 1, 0);
        PeriodicNet second = new PeriodicNet();
        second.reset(4);
        second.reset(9);
        Nets.dueState(check, new PeriodicNet(), 0);
        Nets.dueGraph(check, first, 2, Nets.edge(0, 1, 1, 0));
        check.due("errorCount(-2) of the first", first.errorCount(-2), 0);
        check.due("undo() of the first", first.undo(), 1);
        check.due("undo() of the second", second.undo(), 0);
    }

    // ---- promise 2

    @Sentence(in = "Promise 2", says = "Removes all edges")
    static void p02RemovesTwelveEdges(Check check) {
        PeriodicNet net = Nets.full();
        check.due("reset(2)", net.reset(2), 2);
        Nets.dueGraph(check, net, 2);
        check.due("findEdge(0, 1, -2, -2)", net.findEdge(0, 1, -2, -2), -1);
        check.due("neighbour(0, 0)", net.neighbour(0, 0), -2);
        check.due("addEdge(1, 0, 2, 2)", net.addEdge(1, 0, 2, 2), 0);
    }

    @Sentence(in = "Promise 2", says = "Removes all edges")
    static void p02RemovesTheOnlyEdge(Check check) {
        PeriodicNet net = Nets.loops(1);
        check.due("reset(1)", net.reset(1), 1);
        Nets.dueGraph(check, net, 1);
    }

    @Sentence(in = "Promise 2", says = "sets the number of vertices.")
    static void p02SetsEachNumberFromEachOther(Check check) {
        PeriodicNet net = new PeriodicNet();
        int before = 1;
        for (int from = 1; from <= 6; from++) {
            for (int to = 1; to <= 6; to++) {
                check.due("reset(" + from + ")", net.reset(from), before);
                check.due("reset(" + to + ")", net.reset(to), from);
                check.due("vertices()", net.vertices(), to);
                check.due("degree of the last", net.degree(to - 1), 0);
                check.due("degree past the last", net.degree(to), -2);
                before = to;
            }
        }
    }

    @Sentence(in = "Promise 2", says = "Undoable.")
    static void p02IsUndoable(Check check) {
        for (int n : new int[] {1, 2, 6}) {
            PeriodicNet net = Nets.of(2, Nets.edge(1, 0, 2, -1), Nets.edge(1, 1, 0, 1));
            long before = net.digest();
            net.reset(n);
            check.due("undo() of reset(" + n + ")", net.undo(), 3);
            check.due("digest()", net.digest(), before);
        }
    }

    @Sentence(in = "Promise 2", says = "number of vertices, 1 to 6")
    static void p02TakesOneAndSix(Check check) {
        PeriodicNet net = new PeriodicNet();
        check.due("reset(6)", net.reset(6), 1);
        check.due("vertices()", net.vertices(), 6);
        check.due("addEdge(5, 0, 0, 0)", net.addEdge(5, 0, 0, 0), 0);
        check.due("reset(1)", net.reset(1), 6);
        check.due("vertices()", net.vertices(), 1);
        Nets.dueCounters(check, net);
    }

    @Sentence(in = "Promise 2", says = "Returns the previous number of vertices;")
    static void p02ReturnsThePreviousNumberIfTheSame(Check check) {
        PeriodicNet net = new PeriodicNet();
        check.due("reset(1) of a new object", net.reset(1), 1);
        net.reset(6);
        check.due("reset(6) again", net.reset(6), 6);
        check.due("reset(0)", net.reset(0), -2);
        check.due("reset(3) after an error", net.reset(3), 6);
        net.undo();
        check.due("reset(2) after undo", net.reset(2), 6);
    }

    @Sentence(in = "Promise 2", says = "OUT_OF_RANGE if n is out of range.")
    static void p02RefusesZeroAndSeven(Check check) {
        PeriodicNet net = Nets.honeycomb();
        for (int n : new int[] {0, 7, -1, -2, 8}) {
            check.refused("reset(" + n + ")", net, -2, () -> net.reset(n));
        }
        for (int n : Nets.FAR) {
            check.refused("reset(" + n + ")", net, -2, () -> net.reset(n));
        }
    }

    // ---- promise 3

    @Sentence(in = "Promise 3", says = "Adds an edge.")
    static void p03AddsBehindTheOthers(Check check) {
        PeriodicNet net = Nets.of(3, Nets.edge(2, 1, 0, 1));
        net.addEdge(0, 2, -1, 2);
        net.addEdge(1, 1, 0, -2);
        Nets.dueGraph(check, net, 3, Nets.edge(2, 1, 0, 1), Nets.edge(0, 2, -1, 2),
            Nets.edge(1, 1, 0, -2));
    }

    @Sentence(in = "Promise 3", says = "Undoable.")
    static void p03IsUndoable(Check check) {
        PeriodicNet net = Nets.of(2, Nets.edge(1, 0, 2, -1));
        long before = net.digest();
        net.addEdge(1, 1, 2, 2);
        check.due("undo()", net.undo(), 2);
        check.due("digest()", net.digest(), before);
        check.due("findEdge(1, 1, 2, 2)", net.findEdge(1, 1, 2, 2), -1);
    }

    @Sentence(in = "Promise 3", says = "Undoable.")
    static void p03TheTwelfthEdgeIsUndoable(Check check) {
        PeriodicNet net = Nets.loops(12);
        check.due("undo()", net.undo(), 4);
        Nets.dueGraph(check, net, 1, Nets.edgesOfAllShifts(0, 0, 0, 11));
    }

    @Sentence(in = "Promise 3", says = "`a`: start vertex")
    static void p03StartsAtTheFirstAndTheLastVertex(Check check) {
        PeriodicNet net = new PeriodicNet();
        net.reset(6);
        check.due("addEdge(0, 3, 0, 0)", net.addEdge(0, 3, 0, 0), 0);
        check.due("addEdge(5, 3, 0, 0)", net.addEdge(5, 3, 0, 0), 1);
        check.due("neighbour(0, 0)", net.neighbour(0, 0), 3);
        check.due("neighbour(5, 0)", net.neighbour(5, 0), 3);
    }

    @Sentence(in = "Promise 3", says = "`b`: end vertex")
    static void p03EndsAtTheFirstAndTheLastVertex(Check check) {
        PeriodicNet net = new PeriodicNet();
        net.reset(6);
        check.due("addEdge(3, 0, 0, 0)", net.addEdge(3, 0, 0, 0), 0);
        check.due("addEdge(3, 5, 0, 0)", net.addEdge(3, 5, 0, 0), 1);
        check.due("neighbour(3, 0)", net.neighbour(3, 0), 0);
        check.due("neighbour(3, 1)", net.neighbour(3, 1), 5);
    }

    @Sentence(in = "Promise 3", says = "`x`: first coordinate of the shift, -2 to 2")
    static void p03TakesXFromMinus2To2(Check check) {
        PeriodicNet net = new PeriodicNet();
        net.reset(2);
        for (int x = -2; x <= 2; x++) {
            check.due("addEdge(0, 1, " + x + ", 1)", net.addEdge(0, 1, x, 1), x + 2);
            check.due("distance(0, 1, " + x + ", 1)", net.distance(0, 1, x, 1), 1);
        }
    }

    @Sentence(in = "Promise 3", says = "`y`: second coordinate of the shift, -2 to 2")
    static void p03TakesYFromMinus2To2(Check check) {
        PeriodicNet net = new PeriodicNet();
        net.reset(2);
        for (int y = -2; y <= 2; y++) {
            check.due("addEdge(0, 1, 1, " + y + ")", net.addEdge(0, 1, 1, y), y + 2);
            check.due("distance(0, 1, 1, " + y + ")", net.distance(0, 1, 1, y), 1);
        }
    }

    @Sentence(in = "Promise 3", says = "Returns the number of the edge;")
    static void p03ReturnsZeroFirstAndElevenLast(Check check) {
        PeriodicNet net = new PeriodicNet();
        int[][] edges = Nets.edgesOfAllShifts(0, 0, 0, 12);
        for (int k = 0; k < 12; k++) {
            check.due("addEdge", net.addEdge(0, 0, edges[k][2], edges[k][3]), k);
        }
    }

    @Sentence(in = "Promise 3", says = "Returns the number of the edge;")
    static void p03ReturnsTheNumberAfterOthersAreGone(Check check) {
        PeriodicNet net = Nets.loops(3);
        net.removeEdge(0);
        check.due("addEdge after removeEdge", net.addEdge(0, 0, 0, 1), 2);
        net.undo();
        net.undo();
        check.due("addEdge after undo", net.addEdge(0, 0, 0, 1), 3);
        net.reset(1);
        check.due("addEdge after reset", net.addEdge(0, 0, 0, 1), 0);
    }

    @Sentence(in = "Promise 3", says = "OUT_OF_RANGE if there is no such vertex,")
    static void p03RefusesAStartThatIsNoVertex(Check check) {
        PeriodicNet net = Nets.honeycomb();
        for (int a : new int[] {-1, 2, 6, Integer.MIN_VALUE, -1000, 1000, Integer.MAX_VALUE}) {
            check.refused("addEdge(" + a + ", 0, 1, 0)", net, -2, () -> net.addEdge(a, 0, 1, 0));
        }
    }

    @Sentence(in = "Promise 3", says = "OUT_OF_RANGE if there is no such vertex,")
    static void p03RefusesAnEndThatIsNoVertex(Check check) {
        PeriodicNet net = Nets.honeycomb();
        for (int b : new int[] {-1, 2, 6, Integer.MIN_VALUE, -1000, 1000, Integer.MAX_VALUE}) {
            check.refused("addEdge(1, " + b + ", 1, 0)", net, -2, () -> net.addEdge(1, b, 1, 0));
        }
        check.refused("addEdge(2, 2, 1, 0)", net, -2, () -> net.addEdge(2, 2, 1, 0));
    }

    @Sentence(in = "Promise 3", says = "OUT_OF_RANGE if there is no such vertex, a coordinate is out")
    static void p03RefusesAFirstCoordinateOutOfRange(Check check) {
        PeriodicNet net = Nets.honeycomb();
        for (int x : new int[] {-3, 3, Integer.MIN_VALUE, -1000, 1000, Integer.MAX_VALUE}) {
            check.refused("addEdge(0, 1, " + x + ", 0)", net, -2, () -> net.addEdge(0, 1, x, 0));
            check.refused("addEdge(1, 1, " + x + ", 0)", net, -2, () -> net.addEdge(1, 1, x, 0));
        }
    }

    @Sentence(in = "Promise 3", says = "a coordinate is out of range,")
    static void p03RefusesASecondCoordinateOutOfRange(Check check) {
        PeriodicNet net = Nets.honeycomb();
        for (int y : new int[] {-3, 3, Integer.MIN_VALUE, -1000, 1000, Integer.MAX_VALUE}) {
            check.refused("addEdge(0, 1, 0, " + y + ")", net, -2, () -> net.addEdge(0, 1, 0, y));
            check.refused("addEdge(1, 1, 0, " + y + ")", net, -2, () -> net.addEdge(1, 1, 0, y));
        }
    }

    @Sentence(in = "Promise 3", says = "or a equals b and the shift is (0, 0);")
    static void p03RefusesAStillEdgeAtEachVertex(Check check) {
        PeriodicNet net = Nets.row(6);
        for (int v = 0; v < 6; v++) {
            int a = v;
            check.refused("addEdge(" + a + ", " + a + ", 0, 0)", net, -2,
                () -> net.addEdge(a, a, 0, 0));
        }
    }

    @Sentence(in = "Promise 3", says = "or a equals b and the shift is (0, 0);")
    static void p03TakesWhatIsNotQuiteAStillEdge(Check check) {
        PeriodicNet net = new PeriodicNet();
        net.reset(2);
        check.due("addEdge(0, 1, 0, 0)", net.addEdge(0, 1, 0, 0), 0);
        check.due("addEdge(1, 1, 1, 0)", net.addEdge(1, 1, 1, 0), 1);
        check.due("addEdge(1, 1, 0, 1)", net.addEdge(1, 1, 0, 1), 2);
        check.due("addEdge(0, 0, 0, -1)", net.addEdge(0, 0, 0, -1), 3);
        check.due("addEdge(0, 0, -1, 0)", net.addEdge(0, 0, -1, 0), 4);
    }

    @Sentence(in = "Promise 3", says = "EXISTS if the edge exists (in either direction);")
    static void p03RefusesEachEdgeAsItWasGiven(Check check) {
        PeriodicNet net = Nets.of(2, Nets.edgesOfAllShifts(0, 1, 6, 12));
        for (int[] e : Nets.edgesOfAllShifts(0, 1, 6, 12)) {
            check.refused("addEdge again", net, -3, () -> net.addEdge(0, 1, e[2], e[3]));
        }
    }

    @Sentence(in = "Promise 3", says = "(in either direction);")
    static void p03RefusesEachEdgeFromItsEnd(Check check) {
        PeriodicNet net = Nets.of(2, Nets.edgesOfAllShifts(0, 1, 6, 12));
        for (int[] e : Nets.edgesOfAllShifts(0, 1, 6, 12)) {
            check.refused("addEdge backward", net, -3, () -> net.addEdge(1, 0, -e[2], -e[3]));
        }
    }

    @Sentence(in = "Promise 3", says = "(in either direction);")
    static void p03RefusesEachLoopInBothDirections(Check check) {
        PeriodicNet net = Nets.loops(12);
        for (int[] e : Nets.edgesOfAllShifts(0, 0, 0, 12)) {
            check.refused("addEdge again", net, -3, () -> net.addEdge(0, 0, e[2], e[3]));
            check.refused("addEdge backward", net, -3, () -> net.addEdge(0, 0, -e[2], -e[3]));
        }
    }

    @Sentence(in = "Promise 3", says = "FULL if there are 12 edges.")
    static void p03RefusesTheThirteenthEdge(Check check) {
        PeriodicNet net = Nets.full();
        check.refused("addEdge(0, 1, 0, 0)", net, -4, () -> net.addEdge(0, 1, 0, 0));
        check.refused("addEdge(0, 0, 1, 0)", net, -4, () -> net.addEdge(0, 0, 1, 0));
        check.refused("addEdge(1, 0, -2, -2)", net, -4, () -> net.addEdge(1, 0, -2, -2));
        Nets.dueGraph(check, net, 2, Nets.edgesOfAllShifts(0, 1, 0, 12));
    }

    @Sentence(in = "Promise 3", says = "FULL if there are 12 edges.")
    static void p03TakesTheTwelfthEdge(Check check) {
        PeriodicNet net = Nets.of(2, Nets.edgesOfAllShifts(0, 1, 0, 11));
        check.due("addEdge(1, 1, 2, 2)", net.addEdge(1, 1, 2, 2), 11);
        net.removeEdge(4);
        check.due("addEdge after removeEdge", net.addEdge(1, 1, 2, 1), 11);
        net.addEdge(1, 1, 1, 1);
        net.undo();
        check.due("addEdge after undo", net.addEdge(1, 1, 1, 1), 11);
        Nets.dueCounters(check, net, 0, 0, 1);
    }

    // ---- promise 4

    @Sentence(in = "Promise 4", says = "Removes an edge.")
    static void p04RemovesTheFirstTheLastAndOneBetween(Check check) {
        for (int gone : new int[] {0, 5, 11}) {
            PeriodicNet net = Nets.full();
            net.removeEdge(gone);
            int[][] all = Nets.edgesOfAllShifts(0, 1, 0, 12);
            int[][] rest = new int[11][];
            for (int k = 0; k < 11; k++) {
                rest[k] = all[k < gone ? k : k + 1];
            }
            Nets.dueGraph(check, net, 2, rest);
            check.due("findEdge of the removed", net.findEdge(0, 1, all[gone][2], all[gone][3]),
                -1);
            check.due("findEdge of the removed from its end",
                net.findEdge(1, 0, -all[gone][2], -all[gone][3]), -1);
        }
    }

    @Sentence(in = "Promise 4", says = "The edges with higher numbers move down by one.")
    static void p04MovesHigherNumbersDown(Check check) {
        PeriodicNet net = Nets.of(4, Nets.edge(0, 1, 0, 0), Nets.edge(2, 0, 1, 2),
            Nets.edge(3, 3, 0, 1), Nets.edge(0, 3, -2, 0));
        net.removeEdge(1);
        Nets.dueState(check, net, 5, Nets.edge(0, 1, 0, 0), Nets.edge(3, 3, 0, 1),
            Nets.edge(0, 3, -2, 0));
        check.due("neighbour(0, 1)", net.neighbour(0, 1), 3);
        net.removeEdge(0);
        Nets.dueState(check, net, 5, Nets.edge(3, 3, 0, 1), Nets.edge(0, 3, -2, 0));
        check.due("neighbour(3, 2)", net.neighbour(3, 2), 0);
    }

    @Sentence(in = "Promise 4", says = "The edges with higher numbers move down by one.")
    static void p04MovesNoneIfTheLastGoes(Check check) {
        PeriodicNet net = Nets.of(3, Nets.edge(0, 1, 0, 0), Nets.edge(2, 0, 1, 2),
            Nets.edge(1, 1, 0, 1));
        net.removeEdge(2);
        Nets.dueState(check, net, 5, Nets.edge(0, 1, 0, 0), Nets.edge(2, 0, 1, 2));
    }

    @Sentence(in = "Promise 4", says = "Undoable.")
    static void p04IsUndoable(Check check) {
        for (int gone = 0; gone < 3; gone++) {
            PeriodicNet net = new PeriodicNet();
            net.reset(3);
            Nets.with(net, Nets.edge(2, 1, 0, 1), Nets.edge(1, 0, -1, 2), Nets.edge(1, 1, 0, -2));
            long before = net.digest();
            net.removeEdge(gone);
            check.due("undo() of removeEdge(" + gone + ")", net.undo(), 4);
            check.due("digest()", net.digest(), before);
        }
    }

    @Sentence(in = "Promise 4", says = "Returns the number of edges that remain;")
    static void p04ReturnsElevenDownToZero(Check check) {
        PeriodicNet net = Nets.full();
        for (int remain = 11; remain >= 0; remain--) {
            check.due("removeEdge", net.removeEdge(remain / 2), remain);
            check.due("edges()", net.edges(), remain);
        }
        check.due("vertices()", net.vertices(), 2);
    }

    @Sentence(in = "Promise 4", says = "`edge`: number of an edge")
    static void p04TakesTheFirstAndTheLastNumber(Check check) {
        check.due("removeEdge(0)", Nets.full().removeEdge(0), 11);
        check.due("removeEdge(11)", Nets.full().removeEdge(11), 11);
        check.due("removeEdge(0) of one", Nets.loops(1).removeEdge(0), 0);
    }

    @Sentence(in = "Promise 4", says = "OUT_OF_RANGE if there is no such edge.")
    static void p04RefusesANumberThatIsNoEdge(Check check) {
        PeriodicNet net = Nets.honeycomb();
        for (int edge : new int[] {-1, 3, 4, 11, 12}) {
            check.refused("removeEdge(" + edge + ")", net, -2, () -> net.removeEdge(edge));
        }
        for (int edge : Nets.FAR) {
            check.refused("removeEdge(" + edge + ")", net, -2, () -> net.removeEdge(edge));
        }
        PeriodicNet full = Nets.full();
        check.refused("removeEdge(12) of 12", full, -2, () -> full.removeEdge(12));
        check.refused("removeEdge(-1) of 12", full, -2, () -> full.removeEdge(-1));
    }

    @Sentence(in = "Promise 4", says = "OUT_OF_RANGE if there is no such edge.")
    static void p04RefusesAllIfThereIsNoEdge(Check check) {
        PeriodicNet net = new PeriodicNet();
        check.refused("removeEdge(0)", net, -2, () -> net.removeEdge(0));
        check.refused("removeEdge(-1)", net, -2, () -> net.removeEdge(-1));
        net.addEdge(0, 0, 1, 0);
        net.removeEdge(0);
        check.refused("removeEdge(0) again", net, -2, () -> net.removeEdge(0));
    }

    // ---- promise 5

    @Sentence(in = "Promise 5", says = "`a`: a vertex")
    static void p05TakesTheFirstAndTheLastVertexAsA(Check check) {
        PeriodicNet net = Nets.of(6, Nets.edge(0, 3, 0, 0), Nets.edge(5, 3, 1, 0));
        check.quiet("findEdge(0, 3, 0, 0)", net, 0, () -> net.findEdge(0, 3, 0, 0));
        check.quiet("findEdge(5, 3, 1, 0)", net, 1, () -> net.findEdge(5, 3, 1, 0));
        check.quiet("findEdge(5, 3, 0, 0)", net, -1, () -> net.findEdge(5, 3, 0, 0));
        check.refused("findEdge(6, 3, 0, 0)", net, -2, () -> net.findEdge(6, 3, 0, 0));
    }

    @Sentence(in = "Promise 5", says = "`b`: a vertex")
    static void p05TakesTheFirstAndTheLastVertexAsB(Check check) {
        PeriodicNet net = Nets.of(6, Nets.edge(3, 0, 0, 0), Nets.edge(3, 5, 1, 0));
        check.quiet("findEdge(3, 0, 0, 0)", net, 0, () -> net.findEdge(3, 0, 0, 0));
        check.quiet("findEdge(3, 5, 1, 0)", net, 1, () -> net.findEdge(3, 5, 1, 0));
        check.quiet("findEdge(3, 5, 0, 0)", net, -1, () -> net.findEdge(3, 5, 0, 0));
        check.refused("findEdge(3, 6, 0, 0)", net, -2, () -> net.findEdge(3, 6, 0, 0));
    }

    @Sentence(in = "Promise 5", says = "`x`: first coordinate of the shift from a to b")
    static void p05TakesXFromAToB(Check check) {
        PeriodicNet net = Nets.of(2, Nets.edge(0, 1, 2, 0), Nets.edge(1, 0, 1, 0));
        int[] want = {-1, 1, -1, -1, 0};
        for (int x = -2; x <= 2; x++) {
            check.due("findEdge(0, 1, " + x + ", 0)", net.findEdge(0, 1, x, 0), want[x + 2]);
            check.due("findEdge(1, 0, " + -x + ", 0)", net.findEdge(1, 0, -x, 0), want[x + 2]);
        }
    }

    @Sentence(in = "Promise 5", says = "`y`: second coordinate of the shift from a to b")
    static void p05TakesYFromAToB(Check check) {
        PeriodicNet net = Nets.of(2, Nets.edge(0, 1, 0, 2), Nets.edge(1, 0, 0, 1));
        int[] want = {-1, 1, -1, -1, 0};
        for (int y = -2; y <= 2; y++) {
            check.due("findEdge(0, 1, 0, " + y + ")", net.findEdge(0, 1, 0, y), want[y + 2]);
            check.due("findEdge(1, 0, 0, " + -y + ")", net.findEdge(1, 0, 0, -y), want[y + 2]);
        }
    }

    @Sentence(in = "Promise 5", says = "Returns the number of the edge from a to b with this shift,")
    static void p05FindsTheFirstAndTheLastOfTwelve(Check check) {
        PeriodicNet net = Nets.full();
        check.quiet("findEdge(0, 1, -2, -2)", net, 0, () -> net.findEdge(0, 1, -2, -2));
        check.quiet("findEdge(0, 1, 0, -1)", net, 11, () -> net.findEdge(0, 1, 0, -1));
    }

    @Sentence(in = "Promise 5", says = "in whichever direction it is stored;")
    static void p05FindsEachEdgeFromBothSides(Check check) {
        PeriodicNet net = Nets.of(2, Nets.edgesOfAllShifts(1, 0, 13, 12));
        for (int k = 0; k < 12; k++) {
            int x = (13 + k) / 5 - 2;
            int y = (13 + k) % 5 - 2;
            check.due("findEdge forward", net.findEdge(1, 0, x, y), k);
            check.due("findEdge backward", net.findEdge(0, 1, -x, -y), k);
            check.due("findEdge with the opposite shift", net.findEdge(1, 0, -x, -y), -1);
            check.due("findEdge from the wrong side", net.findEdge(0, 1, x, y), -1);
        }
    }

    @Sentence(in = "Promise 5", says = "in whichever direction it is stored;")
    static void p05FindsALoopFromBothSides(Check check) {
        PeriodicNet net = Nets.of(1, Nets.edge(0, 0, 1, 0), Nets.edge(0, 0, 2, -1));
        check.due("findEdge(0, 0, 2, -1)", net.findEdge(0, 0, 2, -1), 1);
        check.due("findEdge(0, 0, -2, 1)", net.findEdge(0, 0, -2, 1), 1);
        check.due("findEdge(0, 0, 2, 1)", net.findEdge(0, 0, 2, 1), -1);
        check.due("findEdge(0, 0, -2, -1)", net.findEdge(0, 0, -2, -1), -1);
        check.due("findEdge(0, 0, -1, 2)", net.findEdge(0, 0, -1, 2), -1);
    }

    @Sentence(in = "Promise 5", says = "NONE if there is none")
    static void p05AnswersNoneInANetWithoutEdges(Check check) {
        PeriodicNet net = new PeriodicNet();
        check.quiet("findEdge(0, 0, 1, 0)", net, -1, () -> net.findEdge(0, 0, 1, 0));
        check.quiet("findEdge(0, 0, 0, 0)", net, -1, () -> net.findEdge(0, 0, 0, 0));
    }

    @Sentence(in = "Promise 5", says = "NONE if there is none")
    static void p05AnswersNoneForAnEdgeThatIsGone(Check check) {
        PeriodicNet net = Nets.of(2, Nets.edge(0, 1, 1, 2), Nets.edge(0, 1, 2, 2));
        net.removeEdge(1);
        check.quiet("findEdge(0, 1, 2, 2)", net, -1, () -> net.findEdge(0, 1, 2, 2));
        net.reset(2);
        check.quiet("findEdge(0, 1, 1, 2)", net, -1, () -> net.findEdge(0, 1, 1, 2));
    }

    @Sentence(in = "Promise 5", says = "(also if the shift is out of range);")
    static void p05AnswersNoneForAShiftOutOfRange(Check check) {
        PeriodicNet net = Nets.of(2, Nets.edge(0, 1, 2, -2), Nets.edge(0, 0, 2, 2));
        for (int far : new int[] {-3, 3, 4, Integer.MIN_VALUE, 1000, Integer.MAX_VALUE}) {
            check.quiet("findEdge(0, 1, " + far + ", -2)", net, -1,
                () -> net.findEdge(0, 1, far, -2));
            check.quiet("findEdge(1, 0, -2, " + far + ")", net, -1,
                () -> net.findEdge(1, 0, -2, far));
            check.quiet("findEdge(0, 0, " + far + ", " + far + ")", net, -1,
                () -> net.findEdge(0, 0, far, far));
        }
    }

    @Sentence(in = "Promise 5", says = "OUT_OF_RANGE if there is no such vertex.")
    static void p05RefusesAVertexThatIsNone(Check check) {
        PeriodicNet net = Nets.honeycomb();
        for (int v : new int[] {-1, 2, 6, Integer.MIN_VALUE, 1000, Integer.MAX_VALUE}) {
            check.refused("findEdge(" + v + ", 1, 0, 0)", net, -2, () -> net.findEdge(v, 1, 0, 0));
            check.refused("findEdge(0, " + v + ", 0, 0)", net, -2, () -> net.findEdge(0, v, 0, 0));
        }
    }

    @Sentence(in = "Promise 5", says = "OUT_OF_RANGE if there is no such vertex.")
    static void p05RefusesTheVertexThoughTheShiftIsOutOfRange(Check check) {
        PeriodicNet net = Nets.honeycomb();
        check.refused("findEdge(2, 0, 3, 0)", net, -2, () -> net.findEdge(2, 0, 3, 0));
        check.refused("findEdge(0, -1, 0, 9)", net, -2, () -> net.findEdge(0, -1, 0, 9));
    }

    // ---- promise 6

    @Sentence(in = "Promise 6", says = "node (v, i - x, j - y) is called (v, i, j) from now on.")
    static void p06RenamesTheNodes(Check check) {
        PeriodicNet before = Nets.honeycomb();
        PeriodicNet after = Nets.honeycomb();
        after.moveVertex(1, 2, -1);
        int[][] cells = {{0, 0}, {2, -1}, {1, -1}, {2, -2}, {3, 0}, {-2, 1}};
        for (int[] c : cells) {
            check.due("distance(0, 1, " + c[0] + ", " + c[1] + ")",
                after.distance(0, 1, c[0], c[1]), before.distance(0, 1, c[0] - 2, c[1] + 1));
        }
        check.due("distance(0, 1, 2, -1)", after.distance(0, 1, 2, -1), 1);
        check.due("distance(0, 1, -2, 1)", after.distance(0, 1, -2, 1), 7);
        check.due("distance(0, 0, 1, 0)", after.distance(0, 0, 1, 0), 2);
    }

    @Sentence(in = "Promise 6", says = "The shift of each edge that starts at v decreases by (x, y),")
    static void p06LowersTheShiftsOfEdgesThatStart(Check check) {
        PeriodicNet net = Nets.of(3, Nets.edge(1, 0, 0, 2), Nets.edge(1, 2, -1, 1),
            Nets.edge(0, 2, 1, 1));
        check.due("moveVertex(1, -2, 2)", net.moveVertex(1, -2, 2), 2);
        Nets.dueState(check, net, 5, Nets.edge(1, 0, 2, 0), Nets.edge(1, 2, 1, -1),
            Nets.edge(0, 2, 1, 1));
    }

    @Sentence(in = "Promise 6", says = "the shift of each edge that ends at v increases by (x, y)")
    static void p06RaisesTheShiftsOfEdgesThatEnd(Check check) {
        PeriodicNet net = Nets.of(3, Nets.edge(0, 1, 2, 0), Nets.edge(2, 1, 1, -1),
            Nets.edge(0, 2, 1, 1));
        check.due("moveVertex(1, -2, 2)", net.moveVertex(1, -2, 2), 2);
        Nets.dueState(check, net, 5, Nets.edge(0, 1, 0, 2), Nets.edge(2, 1, -1, 1),
            Nets.edge(0, 2, 1, 1));
    }

    @Sentence(in = "Promise 6", says = "(so edges from v to itself keep their shifts).")
    static void p06KeepsTheShiftsOfLoops(Check check) {
        PeriodicNet net = Nets.loops(12);
        check.due("moveVertex(0, 2, 2)", net.moveVertex(0, 2, 2), 0);
        check.due("moveVertex(0, -2, -2)", net.moveVertex(0, -2, -2), 0);
        Nets.dueState(check, net, 5, Nets.edgesOfAllShifts(0, 0, 0, 12));
    }

    @Sentence(in = "Promise 6", says = "(so edges from v to itself keep their shifts).")
    static void p06KeepsLoopsBesideOtherEdges(Check check) {
        PeriodicNet net = Nets.of(2, Nets.edge(1, 1, 2, -2), Nets.edge(0, 1, 0, 0),
            Nets.edge(0, 0, -2, 2));
        check.due("moveVertex(1, 2, 1)", net.moveVertex(1, 2, 1), 1);
        Nets.dueState(check, net, 5, Nets.edge(1, 1, 2, -2), Nets.edge(0, 1, 2, 1),
            Nets.edge(0, 0, -2, 2));
    }

    @Sentence(in = "Promise 6", says = "Undoable.")
    static void p06IsUndoable(Check check) {
        PeriodicNet net = new PeriodicNet();
        net.reset(3);
        Nets.with(net, Nets.edge(1, 0, 1, 0), Nets.edge(2, 1, 0, 1), Nets.edge(1, 1, 0, 1));
        long before = net.digest();
        net.moveVertex(1, 1, -2);
        check.due("undo()", net.undo(), 4);
        check.due("digest()", net.digest(), before);
    }

    @Sentence(in = "Promise 6", says = "`v`: a vertex")
    static void p06MovesTheFirstAndTheLastVertex(Check check) {
        PeriodicNet net = Nets.row(6);
        check.due("moveVertex(0, 1, 0)", net.moveVertex(0, 1, 0), 1);
        check.due("findEdge(0, 1, -1, 0)", net.findEdge(0, 1, -1, 0), 0);
        check.due("moveVertex(5, 1, 0)", net.moveVertex(5, 1, 0), 1);
        check.due("findEdge(4, 5, 1, 0)", net.findEdge(4, 5, 1, 0), 4);
    }

    @Sentence(in = "Promise 6", says = "`x`: -2 to 2")
    static void p06TakesXFromMinus2To2(Check check) {
        for (int x = -2; x <= 2; x++) {
            PeriodicNet net = Nets.row(2);
            check.due("moveVertex(1, " + x + ", 0)", net.moveVertex(1, x, 0), x == 0 ? 0 : 1);
            check.due("findEdge(0, 1, " + x + ", 0)", net.findEdge(0, 1, x, 0), 0);
        }
    }

    @Sentence(in = "Promise 6", says = "`y`: -2 to 2")
    static void p06TakesYFromMinus2To2(Check check) {
        for (int y = -2; y <= 2; y++) {
            PeriodicNet net = Nets.row(2);
            check.due("moveVertex(0, 0, " + y + ")", net.moveVertex(0, 0, y), y == 0 ? 0 : 1);
            check.due("findEdge(0, 1, 0, " + -y + ")", net.findEdge(0, 1, 0, -y), 0);
        }
    }

    @Sentence(in = "Promise 6", says = "Returns the number of edges whose shift has changed;")
    static void p06ReturnsZeroIfNoneHas(Check check) {
        PeriodicNet net = Nets.of(3, Nets.edge(0, 1, 0, 0), Nets.edge(0, 0, 1, 0));
        check.due("moveVertex(0, 0, 0)", net.moveVertex(0, 0, 0), 0);
        check.due("moveVertex(2, 2, -2)", net.moveVertex(2, 2, -2), 0);
        check.due("moveVertex of a new object", new PeriodicNet().moveVertex(0, 2, 2), 0);
    }

    @Sentence(in = "Promise 6", says = "Returns the number of edges whose shift has changed;")
    static void p06ReturnsTwelveIfAllHave(Check check) {
        PeriodicNet net = Nets.full();
        check.due("moveVertex(1, 2, 0)", net.moveVertex(1, 2, 0), 12);
        check.due("moveVertex(0, 2, 0)", net.moveVertex(0, 2, 0), 12);
        Nets.dueGraph(check, net, 2, Nets.edgesOfAllShifts(0, 1, 0, 12));
    }

    @Sentence(in = "Promise 6", says = "Returns the number of edges whose shift has changed;")
    static void p06CountsAnEdgeWithOneNewCoordinateOnce(Check check) {
        PeriodicNet net = Nets.honeycomb();
        check.due("moveVertex(1, 1, 0)", net.moveVertex(1, 1, 0), 3);
        check.due("moveVertex(1, 0, 1)", net.moveVertex(1, 0, 1), 3);
        check.due("moveVertex(1, -1, -1)", net.moveVertex(1, -1, -1), 3);
    }

    @Sentence(in = "Promise 6", says = "OUT_OF_RANGE if an argument is out of range;")
    static void p06RefusesAVertexThatIsNone(Check check) {
        PeriodicNet net = Nets.honeycomb();
        for (int v : new int[] {-1, 2, 6, Integer.MIN_VALUE, 1000, Integer.MAX_VALUE}) {
            check.refused("moveVertex(" + v + ", 1, 0)", net, -2, () -> net.moveVertex(v, 1, 0));
        }
    }

    @Sentence(in = "Promise 6", says = "OUT_OF_RANGE if an argument is out of range;")
    static void p06RefusesAMoveOutOfRange(Check check) {
        // Without edges no shift can be too far.
        PeriodicNet net = new PeriodicNet();
        for (int far : new int[] {-3, 3, Integer.MIN_VALUE, -1000, 1000, Integer.MAX_VALUE}) {
            check.refused("moveVertex(0, " + far + ", 0)", net, -2,
                () -> net.moveVertex(0, far, 0));
            check.refused("moveVertex(0, 0, " + far + ")", net, -2,
                () -> net.moveVertex(0, 0, far));
        }
    }

    @Sentence(in = "Promise 6", says = "TOO_FAR if a shift would be too far.")
    static void p06RefusesAShiftOf3ButNotOf2(Check check) {
        int[][] ways = {{1, 0}, {-1, 0}, {0, 1}, {0, -1}};
        for (int[] way : ways) {
            PeriodicNet net = Nets.of(2, Nets.edge(0, 1, way[0], way[1]));
            check.due("moveVertex to 2", net.moveVertex(1, way[0], way[1]), 1);
            check.refused("moveVertex to 3", net, -5, () -> net.moveVertex(1, way[0], way[1]));
            check.refused("moveVertex of the start to 3", net, -5,
                () -> net.moveVertex(0, -way[0], -way[1]));
            check.due("moveVertex back to 0", net.moveVertex(0, 2 * way[0], 2 * way[1]), 1);
            check.due("findEdge(0, 1, 0, 0)", net.findEdge(0, 1, 0, 0), 0);
        }
    }

    @Sentence(in = "Promise 6", says = "TOO_FAR if a shift would be too far.")
    static void p06ChangesNothingIfTheLastOfTwelveWouldBeTooFar(Check check) {
        PeriodicNet net = Nets.of(3, Nets.edgesOfAllShifts(0, 1, 0, 11));
        net.addEdge(2, 0, 0, -2);
        check.refused("moveVertex(0, 0, -1)", net, -5, () -> net.moveVertex(0, 0, -1));
        check.due("moveVertex(2, 0, -2)", net.moveVertex(2, 0, -2), 1);
        check.due("findEdge(2, 0, 0, 0)", net.findEdge(2, 0, 0, 0), 11);
    }

    @Sentence(in = "Promise 6", says = "TOO_FAR if a shift would be too far.")
    static void p06ChangesNothingIfTheFirstWouldBeTooFar(Check check) {
        PeriodicNet net = Nets.of(2, Nets.edge(0, 1, 2, 0), Nets.edge(1, 0, 2, 0));
        check.refused("moveVertex(1, 1, 0)", net, -5, () -> net.moveVertex(1, 1, 0));
        check.refused("moveVertex(1, -1, 0)", net, -5, () -> net.moveVertex(1, -1, 0));
        check.due("moveVertex(1, 0, 1)", net.moveVertex(1, 0, 1), 2);
    }

    // ---- promise 7

    /** Each shift is alone on an edge, for which the kind makes it another one or is refused. */
    private static void dueKind(Check check, int kind, int[] matrix) {
        for (int[] e : Nets.edgesOfAllShifts(1, 0, 0, 25)) {
            PeriodicNet net = Nets.of(2, e);
            int x = matrix[0] * e[2] + matrix[1] * e[3];
            int y = matrix[2] * e[2] + matrix[3] * e[3];
            boolean far = Math.abs(x) > 2 || Math.abs(y) > 2;
            int changed = x == e[2] && y == e[3] ? 0 : 1;
            String call = "changeBasis(" + kind + ") of (" + e[2] + ", " + e[3] + ")";
            check.due(call, net.changeBasis(kind), far ? -5 : changed);
            Nets.dueState(check, net, far ? 2 : 3, Nets.edge(1, 0, far ? e[2] : x, far ? e[3] : y));
        }
    }

    @Sentence(in = "Promise 7", says = "Kind 0: each shift (x, y) becomes (y, x).")
    static void p07Kind0(Check check) {
        dueKind(check, 0, new int[] {0, 1, 1, 0});
    }

    @Sentence(in = "Promise 7", says = "Kind 1: (x, y) becomes (x + y, y).")
    static void p07Kind1(Check check) {
        dueKind(check, 1, new int[] {1, 1, 0, 1});
    }

    @Sentence(in = "Promise 7", says = "Kind 2: (x, y) becomes (x - y, y).")
    static void p07Kind2(Check check) {
        dueKind(check, 2, new int[] {1, -1, 0, 1});
    }

    @Sentence(in = "Promise 7", says = "Kind 3: (x, y) becomes (-x, y).")
    static void p07Kind3(Check check) {
        dueKind(check, 3, new int[] {-1, 0, 0, 1});
    }

    @Sentence(in = "Promise 7", says = "Changes the basis of the cells.")
    static void p07ChangesCellsButNotTheNet(Check check) {
        int[][] edges = {Nets.edge(0, 1, 0, 0), Nets.edge(0, 1, 1, 0), Nets.edge(1, 1, 0, 1),
            Nets.edge(0, 0, 0, -2)};
        // Where each kind brings cell (3, -2).
        int[][] cells = {{-2, 3}, {1, -2}, {5, -2}, {-3, -2}};
        PeriodicNet before = Nets.of(2, edges);
        for (int kind = 0; kind <= 3; kind++) {
            PeriodicNet net = Nets.of(2, edges);
            net.changeBasis(kind);
            check.due("distance of one node under kind " + kind,
                net.distance(0, 1, cells[kind][0], cells[kind][1]), before.distance(0, 1, 3, -2));
            check.due("coordination(0, 3)", net.coordination(0, 3), before.coordination(0, 3));
            check.due("ring(0, 0, 1)", net.ring(0, 0, 1), before.ring(0, 0, 1));
            check.due("index(0)", net.index(0), 1);
        }
    }

    @Sentence(in = "Promise 7", says = "Undoable.")
    static void p07IsUndoable(Check check) {
        for (int kind = 0; kind <= 3; kind++) {
            PeriodicNet net = Nets.of(2, Nets.edge(1, 0, 1, -1), Nets.edge(0, 0, 0, 1));
            long before = net.digest();
            check.due("changeBasis(" + kind + ")", net.changeBasis(kind), kind == 3 ? 1 : 2);
            check.due("undo()", net.undo(), 3);
            check.due("digest()", net.digest(), before);
        }
    }

    @Sentence(in = "Promise 7", says = "`kind`: 0 to 3")
    static void p07TakesKinds0To3(Check check) {
        PeriodicNet net = Nets.loops(0);
        for (int kind = 0; kind <= 3; kind++) {
            check.due("changeBasis(" + kind + ")", net.changeBasis(kind), 0);
        }
        Nets.dueCounters(check, net);
    }

    @Sentence(in = "Promise 7", says = "Returns the number of edges whose shift has changed;")
    static void p07CountsOnlyEdgesThatChange(Check check) {
        int[][] edges = {Nets.edge(0, 1, 0, 0), Nets.edge(0, 1, 1, 1), Nets.edge(0, 1, 2, 0),
            Nets.edge(0, 1, 0, 2), Nets.edge(0, 0, 1, 0)};
        int[] changed = {3, 2, 2, 3};
        for (int kind = 0; kind <= 3; kind++) {
            PeriodicNet net = Nets.of(2, edges);
            check.due("changeBasis(" + kind + ")", net.changeBasis(kind), changed[kind]);
        }
    }

    @Sentence(in = "Promise 7", says = "Returns the number of edges whose shift has changed;")
    static void p07ReturnsZeroAndTwelve(Check check) {
        check.due("changeBasis(0) without edges", new PeriodicNet().changeBasis(0), 0);
        PeriodicNet net = Nets.of(3, Nets.edge(0, 1, 2, 1), Nets.edge(0, 1, 1, 2),
            Nets.edge(0, 1, 1, 0), Nets.edge(0, 1, 2, 0), Nets.edge(0, 1, -1, 0),
            Nets.edge(0, 1, -1, 2), Nets.edge(1, 2, 2, 1), Nets.edge(1, 2, 1, 2),
            Nets.edge(1, 2, 1, 0), Nets.edge(1, 2, 2, 0), Nets.edge(1, 2, -1, 0),
            Nets.edge(1, 2, -1, 2));
        check.due("changeBasis(3) of 12 edges", net.changeBasis(3), 12);
        check.due("changeBasis(0) of 12 edges", net.changeBasis(0), 12);
    }

    @Sentence(in = "Promise 7", says = "OUT_OF_RANGE if kind is out of range;")
    static void p07RefusesKindsMinus1And4(Check check) {
        PeriodicNet net = Nets.honeycomb();
        for (int kind : new int[] {-1, 4, -2, 5}) {
            check.refused("changeBasis(" + kind + ")", net, -2, () -> net.changeBasis(kind));
        }
        for (int kind : Nets.FAR) {
            check.refused("changeBasis(" + kind + ")", net, -2, () -> net.changeBasis(kind));
        }
    }

    @Sentence(in = "Promise 7", says = "TOO_FAR if a shift would be too far.")
    static void p07RefusesAShiftOf3ButNotOf2(Check check) {
        PeriodicNet sum = Nets.of(2, Nets.edge(0, 1, 1, 1), Nets.edge(0, 1, -1, -1));
        check.due("changeBasis(1) to 2 and -2", sum.changeBasis(1), 2);
        check.refused("changeBasis(1) to 3 and -3", sum, -5, () -> sum.changeBasis(1));
        PeriodicNet difference = Nets.of(2, Nets.edge(0, 1, 1, -1), Nets.edge(0, 1, -1, 1));
        check.due("changeBasis(2) to 2 and -2", difference.changeBasis(2), 2);
        check.refused("changeBasis(2) to 3 and -3", difference, -5,
            () -> difference.changeBasis(2));
    }

    @Sentence(in = "Promise 7", says = "TOO_FAR if a shift would be too far.")
    static void p07RefusesALoopThatWouldBeTooFar(Check check) {
        PeriodicNet net = Nets.of(1, Nets.edge(0, 0, 2, 2));
        check.refused("changeBasis(1)", net, -5, () -> net.changeBasis(1));
        check.due("changeBasis(2)", net.changeBasis(2), 1);
        check.due("findEdge(0, 0, 0, 2)", net.findEdge(0, 0, 0, 2), 0);
    }

    @Sentence(in = "Promise 7", says = "TOO_FAR if a shift would be too far.")
    static void p07ChangesNothingIfOneOfTwelveWouldBeTooFar(Check check) {
        for (int bad : new int[] {0, 6, 11}) {
            PeriodicNet net = Nets.of(6);
            for (int k = 0; k < 12; k++) {
                net.addEdge(k % 6, (k + 1) % 6, k == bad ? -2 : 1, k == bad ? -1 : k / 6);
            }
            check.refused("changeBasis(1)", net, -5, () -> net.changeBasis(1));
            check.due("changeBasis(2)", net.changeBasis(2), bad < 6 ? 7 : 6);
        }
    }

    @Sentence(in = "Promise 7", says = "TOO_FAR if a shift would be too far.")
    static void p07Kinds0And3AreNeverTooFar(Check check) {
        PeriodicNet net = Nets.loops(12);
        check.due("changeBasis(0) of 12 loops", net.changeBasis(0), 10);
        check.due("changeBasis(3) of 12 loops", net.changeBasis(3), 10);
        Nets.dueCounters(check, net);
    }

    // ---- promises 8 to 11

    @Sentence(in = "Promise 8", says = "Returns the number of vertices, 1 to 6.")
    static void p08Answers1To6(Check check) {
        PeriodicNet net = new PeriodicNet();
        check.quiet("vertices() of a new object", net, 1, net::vertices);
        for (int n = 6; n >= 1; n--) {
            net.reset(n);
            check.quiet("vertices()", net, n, net::vertices);
        }
        check.due("vertices() with 12 edges", Nets.full().vertices(), 2);
    }

    @Sentence(in = "Promise 9", says = "Returns the number of edges, 0 to 12.")
    static void p09Answers0To12(Check check) {
        PeriodicNet net = new PeriodicNet();
        check.quiet("edges() of a new object", net, 0, net::edges);
        int[][] edges = Nets.edgesOfAllShifts(0, 0, 0, 12);
        for (int k = 1; k <= 12; k++) {
            net.addEdge(0, 0, edges[k - 1][2], edges[k - 1][3]);
            check.quiet("edges()", net, k, net::edges);
        }
        net.addEdge(0, 0, 0, 2);
        net.addEdge(0, 0, 0, 3);
        check.due("edges() after refused ones", net.edges(), 12);
    }

    @Sentence(in = "Promise 10", says = "Returns the degree;")
    static void p10AnswersZeroAndTwentyFour(Check check) {
        PeriodicNet net = Nets.of(2, Nets.edgesOfAllShifts(1, 1, 0, 12));
        check.quiet("degree(0) of none", net, 0, () -> net.degree(0));
        check.quiet("degree(1) of 12 loops", net, 24, () -> net.degree(1));
        check.due("degree(0) of 12 edges", Nets.full().degree(0), 12);
        check.due("degree(1) of 12 edges", Nets.full().degree(1), 12);
    }

    @Sentence(in = "Promise 10", says = "`v`: a vertex")
    static void p10TakesTheFirstAndTheLastVertex(Check check) {
        PeriodicNet net = Nets.row(6);
        int[] degree = {1, 2, 2, 2, 2, 1};
        for (int v = 0; v < 6; v++) {
            check.due("degree(" + v + ")", net.degree(v), degree[v]);
        }
    }

    @Sentence(in = "Promise 10", says = "OUT_OF_RANGE if there is no such vertex.")
    static void p10RefusesAVertexThatIsNone(Check check) {
        PeriodicNet net = Nets.honeycomb();
        for (int v : new int[] {-1, 2, 6, Integer.MIN_VALUE, 1000, Integer.MAX_VALUE}) {
            check.refused("degree(" + v + ")", net, -2, () -> net.degree(v));
        }
        PeriodicNet six = Nets.row(6);
        check.refused("degree(6) of 6", six, -2, () -> six.degree(6));
    }

    @Sentence(in = "Promise 11", says = "Returns the vertex;")
    static void p11AnswersWhereEachEndLeads(Check check) {
        PeriodicNet net = Nets.of(6, Nets.edge(5, 0, 0, 0), Nets.edge(0, 0, 1, 0),
            Nets.edge(0, 3, 0, 0), Nets.edge(5, 5, 0, 1));
        int[][] want = {{5, 0, 0, 3}, {}, {}, {0}, {}, {0, 5, 5}};
        for (int v = 0; v < 6; v++) {
            for (int end = 0; end < want[v].length; end++) {
                int p = end;
                int from = v;
                check.quiet("neighbour(" + v + ", " + end + ")", net, want[v][end],
                    () -> net.neighbour(from, p));
            }
        }
    }

    @Sentence(in = "Promise 11", says = "`v`: a vertex")
    static void p11TakesTheFirstAndTheLastVertex(Check check) {
        PeriodicNet net = Nets.row(6);
        check.due("neighbour(0, 0)", net.neighbour(0, 0), 1);
        check.due("neighbour(5, 0)", net.neighbour(5, 0), 4);
        check.due("neighbour(4, 1)", net.neighbour(4, 1), 5);
    }

    @Sentence(in = "Promise 11", says = "`end`: index of an end of v, from 0")
    static void p11TakesTheFirstAndTheLastEnd(Check check) {
        PeriodicNet net = Nets.loops(12);
        check.due("neighbour(0, 0)", net.neighbour(0, 0), 0);
        check.due("neighbour(0, 23)", net.neighbour(0, 23), 0);
        check.due("neighbour(0, 0) of one end", Nets.row(2).neighbour(0, 0), 1);
        check.due("neighbour(1, 11) of 12 ends", Nets.full().neighbour(1, 11), 0);
    }

    @Sentence(in = "Promise 11", says = "OUT_OF_RANGE if there is no such vertex")
    static void p11RefusesAVertexThatIsNone(Check check) {
        PeriodicNet net = Nets.honeycomb();
        for (int v : new int[] {-1, 2, 6, Integer.MIN_VALUE, 1000, Integer.MAX_VALUE}) {
            check.refused("neighbour(" + v + ", 0)", net, -2, () -> net.neighbour(v, 0));
        }
    }

    @Sentence(in = "Promise 11", says = "OUT_OF_RANGE if there is no such vertex or end.")
    static void p11RefusesAnEndThatIsNone(Check check) {
        PeriodicNet net = Nets.of(3, Nets.edge(0, 1, 0, 0), Nets.edge(0, 0, 1, 0));
        int[] degree = {3, 1, 0};
        for (int v = 0; v < 3; v++) {
            int at = v;
            for (int end : new int[] {degree[v], -1, 24, Integer.MIN_VALUE, Integer.MAX_VALUE}) {
                check.refused("neighbour(" + v + ", " + end + ")", net, -2,
                    () -> net.neighbour(at, end));
            }
        }
        PeriodicNet full = Nets.loops(12);
        check.refused("neighbour(0, 24) of 24 ends", full, -2, () -> full.neighbour(0, 24));
    }
}
