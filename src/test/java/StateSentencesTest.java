/** The boundary cases that promises 23 to 25 name: undo, the counters and the digest. */
public final class StateSentencesTest {
    private StateSentencesTest() {
    }

    public static void main(String[] args) {
        Sentences.run(StateSentencesTest.class);
    }

    // ---- promise 23

    @Sentence(in = "Promise 23", says = "Restores the most recently saved state")
    static void p23RestoresTheLatestFirst(Check check) {
        PeriodicNet net = new PeriodicNet();
        net.reset(2);
        net.addEdge(1, 0, 1, 0);
        net.moveVertex(1, 0, 1);
        net.changeBasis(0);
        net.removeEdge(0);
        net.undo();
        Nets.dueState(check, net, 4, Nets.edge(1, 0, -1, 1));
        net.undo();
        Nets.dueState(check, net, 3, Nets.edge(1, 0, 1, -1));
        net.undo();
        Nets.dueState(check, net, 2, Nets.edge(1, 0, 1, 0));
        net.undo();
        Nets.dueState(check, net, 1);
        check.due("vertices()", net.vertices(), 2);
        net.undo();
        Nets.dueState(check, net, 0);
        check.due("vertices() at last", net.vertices(), 1);
    }

    @Sentence(in = "Promise 23", says = "Restores the most recently saved state")
    static void p23RestoresTheFullNetAndTheEmptyOne(Check check) {
        PeriodicNet net = Nets.full();
        net.reset(6);
        net.undo();
        Nets.dueGraph(check, net, 2, Nets.edgesOfAllShifts(0, 1, 0, 12));
        check.due("neighbour(1, 11)", net.neighbour(1, 11), 0);
        PeriodicNet empty = new PeriodicNet();
        empty.reset(6);
        empty.undo();
        Nets.dueGraph(check, empty, 1);
        check.due("isConnected()", empty.isConnected(), 1);
    }

    @Sentence(in = "Promise 23", says = "Restores the most recently saved state")
    static void p23RestoresWhatEachMethodAnswers(Check check) {
        PeriodicNet net = Nets.of(3, Nets.edge(0, 1, 0, 1), Nets.edge(1, 0, 1, 1),
            Nets.edge(2, 1, 0, 1), Nets.edge(2, 2, 1, 2));
        long[] before = Nets.answers(net);
        for (int call = 0; call < 6; call++) {
            switch (call) {
                case 0 -> net.reset(5);
                case 5 -> net.reset(1);
                case 1 -> net.addEdge(2, 2, 1, -2);
                case 2 -> net.removeEdge(3);
                case 3 -> net.moveVertex(1, 1, -1);
                default -> net.changeBasis(2);
            }
            check.due("undo()", net.undo(), 4);
            Nets.dueAnswers(check, net, before);
        }
    }

    @Sentence(in = "Promise 23", says = "and removes it from the saved states.")
    static void p23GoesFurtherBackEachTime(Check check) {
        PeriodicNet net = new PeriodicNet();
        for (int n = 2; n <= 6; n++) {
            net.reset(n);
        }
        for (int n = 5; n >= 1; n--) {
            net.undo();
            check.due("vertices()", net.vertices(), n);
        }
    }

    @Sentence(in = "Promise 23", says = "and removes it from the saved states.")
    static void p23SavesNothingItself(Check check) {
        PeriodicNet net = new PeriodicNet();
        net.reset(3);
        check.due("undo()", net.undo(), 0);
        check.due("undo() again", net.undo(), -7);
        check.due("vertices()", net.vertices(), 1);
    }

    @Sentence(in = "Promise 23", says = "Returns the number of saved states that remain;")
    static void p23Returns4DownTo0(Check check) {
        PeriodicNet net = Nets.loops(4);
        for (int remain = 4; remain >= 0; remain--) {
            check.due("undo()", net.undo(), remain);
        }
    }

    @Sentence(in = "Promise 23", says = "Returns the number of saved states that remain;")
    static void p23CountsWhatIsSavedAfterAnUndo(Check check) {
        PeriodicNet net = new PeriodicNet();
        net.reset(2);
        net.reset(3);
        check.due("undo()", net.undo(), 1);
        net.reset(4);
        net.reset(5);
        check.due("undo() of reset(5)", net.undo(), 2);
        check.due("vertices()", net.vertices(), 4);
        check.due("undo() of reset(4)", net.undo(), 1);
        check.due("vertices()", net.vertices(), 2);
        check.due("undo() of reset(2)", net.undo(), 0);
        check.due("vertices()", net.vertices(), 1);
    }

    @Sentence(in = "Promise 23", says = "NOTHING_SAVED if there is none.")
    static void p23RefusesOnANewObject(Check check) {
        PeriodicNet net = new PeriodicNet();
        check.refused("undo()", net, -7, net::undo);
        check.refused("undo() again", net, -7, net::undo);
        net.reset(4);
        check.due("undo() of reset(4)", net.undo(), 0);
        check.refused("undo() after that", net, -7, net::undo);
        Nets.dueCounters(check, net, 0, 0, 0, 0, 0, 3);
    }

    @Sentence(in = "Promise 23", says = "NOTHING_SAVED if there is none.")
    static void p23RefusesAfterRefusedCallsAlone(Check check) {
        PeriodicNet net = new PeriodicNet();
        net.reset(7);
        net.addEdge(0, 0, 0, 0);
        net.removeEdge(0);
        net.moveVertex(0, 3, 0);
        net.changeBasis(4);
        check.refused("undo()", net, -7, net::undo);
    }

    @Sentence(in = "Promise 23", says = "NOTHING_SAVED if there is none.")
    static void p23RefusesTheSixthUndoOfMany(Check check) {
        PeriodicNet net = Nets.full();
        for (int k = 0; k < 5; k++) {
            net.undo();
        }
        check.refused("undo()", net, -7, net::undo);
        Nets.dueGraph(check, net, 2, Nets.edgesOfAllShifts(0, 1, 0, 7));
    }

    // ---- promise 24

    @Sentence(in = "Promise 24", says = "`code`: an error code, -7 to -2")
    static void p24TakesCodesMinus7ToMinus2(Check check) {
        PeriodicNet net = new PeriodicNet();
        for (int code = -7; code <= -2; code++) {
            int one = code;
            check.quiet("errorCount(" + code + ")", net, 0, () -> net.errorCount(one));
        }
    }

    @Sentence(in = "Promise 24", says = "Returns the counter of the code;")
    static void p24AnswersForEachCodeApart(Check check) {
        PeriodicNet net = new PeriodicNet();
        net.undo();
        net.reset(2);
        for (int k = 0; k < 2; k++) {
            net.collisions();
        }
        net.addEdge(0, 1, 2, 0);
        for (int k = 0; k < 3; k++) {
            net.moveVertex(1, 1, 0);
        }
        Nets.with(net, Nets.edgesOfAllShifts(1, 1, 0, 11));
        for (int k = 0; k < 4; k++) {
            net.addEdge(0, 0, 1, 0);
        }
        for (int k = 0; k < 5; k++) {
            net.addEdge(1, 0, -2, 0);
        }
        for (int k = 0; k < 6; k++) {
            net.reset(0);
        }
        Nets.dueCounters(check, net, 6, 5, 4, 3, 2, 1);
    }

    @Sentence(in = "Promise 24", says = "Returns how often an error code has been returned.")
    static void p24CountsOutOfRangeOfEachMethod(Check check) {
        PeriodicNet x = new PeriodicNet();
        long[] answers = {x.reset(0), x.addEdge(0, 1, 0, 0), x.removeEdge(0),
            x.findEdge(1, 0, 0, 0), x.moveVertex(1, 0, 0), x.changeBasis(4), x.degree(1),
            x.neighbour(0, 0), x.coordination(0, 9), x.distance(0, 0, 9, 0), x.rank(1),
            x.index(1), x.ring(0, 0, 1), x.numerator(0, 2), x.denominator(0, 2), x.collide(0, 0),
            x.positionBits(0, 2), x.errorCount(-1)};
        for (long answer : answers) {
            check.due("a refused call", answer, -2);
        }
        Nets.dueCounters(check, x, answers.length);
    }

    @Sentence(in = "Promise 24", says = "Returns how often an error code has been returned.")
    static void p24CountsNotConnectedOfEachMethod(Check check) {
        PeriodicNet x = Nets.of(2);
        long[] answers = {x.numerator(0, 0), x.denominator(1, 1), x.collide(1, 0),
            x.collisions(), x.positionBits(0, 1)};
        for (long answer : answers) {
            check.due("a refused call", answer, -6);
        }
        Nets.dueCounters(check, x, 0, 0, 0, 0, answers.length);
    }

    @Sentence(in = "Promise 24", says = "Returns how often an error code has been returned.")
    static void p24CountsTooFarOfBothMethods(Check check) {
        PeriodicNet net = Nets.of(2, Nets.edge(0, 1, 2, 2));
        check.due("moveVertex(1, 0, 1)", net.moveVertex(1, 0, 1), -5);
        check.due("changeBasis(1)", net.changeBasis(1), -5);
        Nets.dueCounters(check, net, 0, 0, 0, 2);
    }

    @Sentence(in = "Promise 24", says = "Returns how often an error code has been returned.")
    static void p24CountsOnAfterUndoAndReset(Check check) {
        PeriodicNet net = new PeriodicNet();
        net.reset(2);
        net.reset(7);
        net.collisions();
        net.undo();
        Nets.dueCounters(check, net, 1, 0, 0, 0, 1);
        net.reset(1);
        net.reset(-1);
        Nets.dueCounters(check, net, 2, 0, 0, 0, 1);
    }

    @Sentence(in = "Promise 24", says = "OUT_OF_RANGE if code is out of range (this increments")
    static void p24RefusesCodesMinus8AndMinus1(Check check) {
        PeriodicNet net = Nets.honeycomb();
        for (int code : new int[] {-8, -1, 0, 1, 2, 7, -9}) {
            check.refused("errorCount(" + code + ")", net, -2, () -> net.errorCount(code));
        }
        for (int code : Nets.FAR) {
            check.refused("errorCount(" + code + ")", net, -2, () -> net.errorCount(code));
        }
    }

    @Sentence(in = "Promise 24", says = "(this increments the counter of OUT_OF_RANGE).")
    static void p24CountsItsOwnErrors(Check check) {
        PeriodicNet net = new PeriodicNet();
        for (int count = 1; count <= 20; count++) {
            check.due("errorCount(-8)", net.errorCount(-8), -2);
            check.due("errorCount(-2)", net.errorCount(-2), count);
        }
    }

    // ---- promise 25

    private static long hash(long... values) {
        long h = 2699;
        for (long v : values) {
            h = 31 * h + v;
        }
        return h;
    }

    @Sentence(in = "Promise 25", says = "Start with h = 2699 and, for each of the following values "
        + "v, set h = 31 * h + v:")
    static void p25OfANewObject(Check check) {
        PeriodicNet net = new PeriodicNet();
        check.due("digest()", net.digest(),
            hash(0, 0, 0, 0, 0, 0, 1, 0, 0, 0, 0, 0, 0, 0, -1, 1, 0, 1, 0, 1, 0));
    }

    @Sentence(in = "Promise 25", says = "the counters of the codes -2, -3, -4, -5, -6, -7;")
    static void p25TakesTheCountersInThisOrder(Check check) {
        PeriodicNet net = new PeriodicNet();
        net.undo();
        net.undo();
        net.reset(0);
        check.due("digest()", net.digest(),
            hash(1, 0, 0, 0, 0, 2, 1, 0, 0, 0, 0, 0, 0, 0, -1, 1, 0, 1, 0, 1, 0));
        net.addEdge(0, 0, 2, 2);
        net.addEdge(0, 0, 2, 2);
        net.changeBasis(1);
        net.changeBasis(1);
        net.changeBasis(1);
        check.due("digest() with a loop", net.digest(), hash(1, 1, 0, 3, 0, 2, 1, 1, 0, 0, 2, 2,
            2, 2, 2, 2, 2, 1, -1, 1, 0, 1, 0, 1, 1));
    }

    @Sentence(in = "Promise 25", says = "the counters of the codes -2, -3, -4, -5, -6, -7;")
    static void p25TakesTheCountersOfFullAndNotConnected(Check check) {
        PeriodicNet net = Nets.full();
        net.addEdge(0, 0, 1, 0);
        net.addEdge(0, 0, 1, 0);
        net.reset(2);
        net.collisions();
        check.due("digest()", net.digest(), hash(0, 0, 2, 0, 1, 0, 2, 0,
            0, 0, 0, 0, 0, 0, -1, 0, 0, 0, 0, 0, 0, -1, 0, 5));
    }

    @Sentence(in = "Promise 25", says = "the number of vertices; the number of edges;")
    static void p25TakesVerticesThenEdges(Check check) {
        for (int n = 1; n <= 6; n++) {
            Nets.dueState(check, Nets.of(n), 1);
            Nets.dueState(check, Nets.row(n), Math.min(n, 5), Nets.rowEdges(n, 0, 0));
        }
        for (int count = 0; count <= 12; count++) {
            Nets.dueState(check, Nets.loops(count), Math.min(count + 1, 5),
                Nets.edgesOfAllShifts(0, 0, 0, count));
        }
    }

    @Sentence(in = "Promise 25", says = "for each edge a, b, x, y as it is stored (as given to "
        + "addEdge,")
    static void p25TakesAnEdgeAsItWasGiven(Check check) {
        PeriodicNet forward = Nets.of(2, Nets.edge(0, 1, 2, -1));
        PeriodicNet backward = Nets.of(2, Nets.edge(1, 0, -2, 1));
        Nets.dueState(check, forward, 2, Nets.edge(0, 1, 2, -1));
        Nets.dueState(check, backward, 2, Nets.edge(1, 0, -2, 1));
        check.holds("the two differ", forward.digest() != backward.digest());
        PeriodicNet loop = Nets.of(1, Nets.edge(0, 0, -1, -2));
        Nets.dueState(check, loop, 2, Nets.edge(0, 0, -1, -2));
    }

    @Sentence(in = "Promise 25", says = "with the shifts as they are now);")
    static void p25TakesAnEdgeAsItIsNow(Check check) {
        PeriodicNet net = Nets.of(2, Nets.edge(1, 0, -2, 1), Nets.edge(1, 1, 0, 1));
        net.moveVertex(0, 2, 0);
        Nets.dueState(check, net, 4, Nets.edge(1, 0, 0, 1), Nets.edge(1, 1, 0, 1));
        net.changeBasis(2);
        Nets.dueState(check, net, 5, Nets.edge(1, 0, -1, 1), Nets.edge(1, 1, -1, 1));
        net.undo();
        Nets.dueState(check, net, 4, Nets.edge(1, 0, 0, 1), Nets.edge(1, 1, 0, 1));
        net.removeEdge(0);
        Nets.dueState(check, net, 5, Nets.edge(1, 1, 0, 1));
    }

    @Sentence(in = "Promise 25", says = "for each vertex its degree, its coordination numbers of "
        + "the orders 1 to 4, its rank and its index")
    static void p25TakesTheSurroundingsOfEachVertex(Check check) {
        PeriodicNet net = Nets.honeycomb();
        check.due("digest()", net.digest(), hash(0, 0, 0, 0, 0, 0, 2, 3,
            0, 1, 0, 0, 0, 1, -1, 0, 0, 1, 0, -1, 3, 3, 6, 9, 12, 2, 1, 3, 3, 6, 9, 12, 2, 1,
            1, 0, 1, 0, 1, 1, 3, 1, 3, 4));
    }

    @Sentence(in = "Promise 25", says = "(NONE if the rank is less than 2);")
    static void p25TakesNoneForTheIndex(Check check) {
        PeriodicNet net = Nets.of(2, Nets.edge(0, 1, 0, 1), Nets.edge(1, 1, 0, 2));
        check.due("digest()", net.digest(), hash(0, 0, 0, 0, 0, 0, 2, 2, 0, 1, 0, 1, 1, 1, 0, 2,
            1, 1, 2, 4, 4, 1, -1, 3, 3, 4, 4, 4, 1, -1, 1, 0, 1, 0, 1, 0, 1, -1, 1, 3));
    }

    @Sentence(in = "Promise 25", says = "1 or 0 for whether the quotient graph is connected;")
    static void p25TakesZeroAndNoPositionsOfPieces(Check check) {
        PeriodicNet net = Nets.of(2, Nets.edge(1, 1, 1, 0), Nets.edge(1, 1, 0, 2));
        check.due("digest()", net.digest(), hash(0, 0, 0, 0, 0, 0, 2, 2, 1, 1, 1, 0, 1, 1, 0, 2,
            0, 0, 0, 0, 0, 0, -1, 4, 4, 8, 12, 16, 2, 2, 0, 3));
        Nets.dueCounters(check, net);
    }

    @Sentence(in = "Promise 25", says = "if it is connected, for each vertex the numerator and the "
        + "denominator of the first and then of the second coordinate;")
    static void p25TakesBothCoordinatesOfEachVertex(Check check) {
        // Vertex 1 is at (3/2, -1), vertex 2 at (3/2, 1).
        PeriodicNet net = Nets.of(3, Nets.edge(1, 0, 2, -1), Nets.edge(1, 0, 1, -1),
            Nets.edge(2, 1, 0, 2));
        check.due("digest()", net.digest(), hash(0, 0, 0, 0, 0, 0, 3, 3,
            1, 0, 2, -1, 1, 0, 1, -1, 2, 1, 0, 2,
            2, 2, 4, 2, 4, 1, -1, 3, 3, 2, 4, 2, 1, -1, 1, 1, 2, 2, 4, 1, -1,
            1, 0, 1, 0, 1, 3, 2, -1, 1, 3, 2, 1, 1, 4));
        net.changeBasis(0);
        check.due("digest() under kind 0", net.digest(), hash(0, 0, 0, 0, 0, 0, 3, 3,
            1, 0, -1, 2, 1, 0, -1, 1, 2, 1, 2, 0,
            2, 2, 4, 2, 4, 1, -1, 3, 3, 2, 4, 2, 1, -1, 1, 1, 2, 2, 4, 1, -1,
            1, 0, 1, 0, 1, -1, 1, 3, 2, 1, 1, 3, 2, 5));
    }

    @Sentence(in = "Promise 25", says = "the number of saved states.")
    static void p25TakesZeroToFiveSavedStates(Check check) {
        PeriodicNet net = new PeriodicNet();
        for (int saved = 0; saved <= 8; saved++) {
            check.due("digest()", net.digest(), hash(0, 0, 0, 0, 0, 0, 1, 0,
                0, 0, 0, 0, 0, 0, -1, 1, 0, 1, 0, 1, Math.min(saved, 5)));
            net.moveVertex(0, 1, 1);
        }
        net.undo();
        check.due("digest() after undo", net.digest(), hash(0, 0, 0, 0, 0, 0, 1, 0,
            0, 0, 0, 0, 0, 0, -1, 1, 0, 1, 0, 1, 4));
    }

    @Sentence(in = "Promise 25", says = "with the overflow of long arithmetic ignored.")
    static void p25WrapsAround(Check check) {
        Nets.dueState(check, Nets.loops(12), 5, Nets.edgesOfAllShifts(0, 0, 0, 12));
        PeriodicNet net = Nets.of(6, Nets.rowEdges(6, -2, 2));
        Nets.with(net, Nets.edgesOfAllShifts(5, 5, 13, 7));
        int[][] edges = new int[12][];
        System.arraycopy(Nets.rowEdges(6, -2, 2), 0, edges, 0, 5);
        System.arraycopy(Nets.edgesOfAllShifts(5, 5, 13, 7), 0, edges, 5, 7);
        Nets.dueState(check, net, 5, edges);
    }

    @Sentence(in = "Promise 25", says = "Returns a hash of the state.")
    static void p25ChangesNothing(Check check) {
        PeriodicNet net = Nets.honeycomb();
        long before = net.digest();
        check.due("digest() again", net.digest(), before);
        Nets.dueState(check, net, 4, Nets.edge(0, 1, 0, 0), Nets.edge(0, 1, -1, 0),
            Nets.edge(0, 1, 0, -1));
        check.due("undo()", net.undo(), 3);
    }
}
