/** The boundary cases that promises 18 to 22 name: the placement. */
public final class PlacementSentencesTest {
    private static final int[] NO_VERTEX_OF_TWO = {-1, 2, 6, Integer.MIN_VALUE, 1000,
        Integer.MAX_VALUE};
    private static final int[] NO_AXIS = {-1, 2, 3, Integer.MIN_VALUE, 1000, Integer.MAX_VALUE};

    private PlacementSentencesTest() {
    }

    public static void main(String[] args) {
        Sentences.run(PlacementSentencesTest.class);
    }

    /** A row in which the position of vertex v is (-1, 1) times twice v. */
    private static PeriodicNet longRow() {
        return Nets.of(6, Nets.rowEdges(6, 2, -2));
    }

    private static long divisor(long a, long b) {
        return b == 0 ? Math.abs(a) : divisor(b, a % b);
    }

    /** Edges from vertex 1 to vertex 0 alone: the position of 1 is the mean of their shifts. */
    private interface BundleCheck {
        void look(PeriodicNet net, int axis, long top, long bottom);
    }

    private static void forEachBundle(BundleCheck look) {
        for (int count = 1; count <= 12; count++) {
            for (int first = 0; first + count <= 25; first++) {
                int[][] edges = Nets.edgesOfAllShifts(1, 0, first, count);
                PeriodicNet net = Nets.of(2, edges);
                for (int axis = 0; axis < 2; axis++) {
                    long sum = 0;
                    for (int[] e : edges) {
                        sum += e[2 + axis];
                    }
                    long shared = divisor(sum, count);
                    look.look(net, axis, sum / shared, count / shared);
                }
            }
        }
    }

    private static PeriodicNet pieces() {
        return Nets.of(3, Nets.edge(0, 1, 1, 0), Nets.edge(2, 2, 1, 0));
    }

    // ---- promise 18

    @Sentence(in = "Promise 18", says = "`axis`: 0 for the first coordinate, 1 for the second")
    static void p18TellsTheAxesApart(Check check) {
        PeriodicNet net = Nets.of(2, Nets.edge(1, 0, 2, -1));
        check.quiet("numerator(1, 0)", net, 2, () -> net.numerator(1, 0));
        check.quiet("numerator(1, 1)", net, -1, () -> net.numerator(1, 1));
    }

    @Sentence(in = "Promise 18", says = "`v`: a vertex")
    static void p18TakesTheFirstAndTheLastVertex(Check check) {
        PeriodicNet net = longRow();
        check.due("numerator(0, 0)", net.numerator(0, 0), 0);
        check.due("numerator(0, 1)", net.numerator(0, 1), 0);
        check.due("numerator(5, 1)", net.numerator(5, 1), 10);
        check.due("numerator(0, 0) of one vertex", new PeriodicNet().numerator(0, 0), 0);
    }

    @Sentence(in = "Promise 18", says = "Returns the numerator (which can be negative")
    static void p18CanBeNegative(Check check) {
        PeriodicNet net = longRow();
        check.quiet("numerator(5, 0)", net, -10, () -> net.numerator(5, 0));
        PeriodicNet thirds = Nets.of(2, Nets.edge(0, 1, 0, 0), Nets.edge(0, 1, 1, 0),
            Nets.edge(0, 1, 0, 1));
        check.quiet("numerator(1, 0)", thirds, -1, () -> thirds.numerator(1, 0));
        check.due("denominator(1, 0)", thirds.denominator(1, 0), 3);
    }

    @Sentence(in = "Promise 18", says = "and can equal an error code);")
    static void p18CanEqualEachErrorCode(Check check) {
        PeriodicNet net = Nets.of(6, Nets.edge(0, 1, 2, 1), Nets.edge(1, 2, 1, 2),
            Nets.edge(2, 3, 1, 2), Nets.edge(3, 4, 1, 2), Nets.edge(4, 5, 1, 2));
        for (int v = 1; v <= 5; v++) {
            int at = v;
            check.quiet("numerator(" + v + ", 0)", net, -1 - v, () -> net.numerator(at, 0));
            check.quiet("numerator(" + v + ", 1)", net, 1 - 2 * v, () -> net.numerator(at, 1));
        }
        Nets.dueCounters(check, net);
    }

    @Sentence(in = "Promise 18", says = "OUT_OF_RANGE if an argument is out of range;")
    static void p18RefusesAVertexThatIsNone(Check check) {
        PeriodicNet net = Nets.honeycomb();
        for (int v : NO_VERTEX_OF_TWO) {
            check.refused("numerator(" + v + ", 0)", net, -2, () -> net.numerator(v, 0));
        }
    }

    @Sentence(in = "Promise 18", says = "OUT_OF_RANGE if an argument is out of range;")
    static void p18RefusesAnAxisThatIsNone(Check check) {
        PeriodicNet net = Nets.honeycomb();
        for (int axis : NO_AXIS) {
            check.refused("numerator(1, " + axis + ")", net, -2, () -> net.numerator(1, axis));
        }
    }

    @Sentence(in = "Promise 18", says = "NOT_CONNECTED if the quotient graph is not connected.")
    static void p18RefusesEachVertexOfPieces(Check check) {
        PeriodicNet net = pieces();
        for (int v = 0; v < 3; v++) {
            int at = v;
            check.refused("numerator(" + v + ", 0)", net, -6, () -> net.numerator(at, 0));
            check.refused("numerator(" + v + ", 1)", net, -6, () -> net.numerator(at, 1));
        }
    }

    // ---- promise 19

    @Sentence(in = "Promise 19", says = "`v`: a vertex")
    static void p19TakesTheFirstAndTheLastVertex(Check check) {
        PeriodicNet net = Nets.with(longRow(), Nets.edge(4, 5, 1, -2));
        check.due("denominator(0, 0)", net.denominator(0, 0), 1);
        check.due("denominator(4, 0)", net.denominator(4, 0), 1);
        check.due("denominator(5, 0)", net.denominator(5, 0), 2);
        check.due("denominator(5, 1)", net.denominator(5, 1), 1);
    }

    @Sentence(in = "Promise 19", says = "`axis`: 0 for the first coordinate, 1 for the second")
    static void p19TellsTheAxesApart(Check check) {
        PeriodicNet net = Nets.of(2, Nets.edge(1, 0, 2, 1), Nets.edge(1, 0, 0, 2));
        check.quiet("denominator(1, 0) of 1", net, 1, () -> net.denominator(1, 0));
        check.quiet("denominator(1, 1) of 3/2", net, 2, () -> net.denominator(1, 1));
    }

    @Sentence(in = "Promise 19", says = "Returns the denominator, at least 1;")
    static void p19Answers1ForWholeCoordinates(Check check) {
        PeriodicNet net = longRow();
        for (int v = 0; v < 6; v++) {
            int at = v;
            check.quiet("denominator(" + v + ", 0)", net, 1, () -> net.denominator(at, 0));
            check.quiet("denominator(" + v + ", 1)", net, 1, () -> net.denominator(at, 1));
        }
        check.due("denominator of one vertex", new PeriodicNet().denominator(0, 1), 1);
    }

    @Sentence(in = "Promise 19", says = "Returns the denominator, at least 1;")
    static void p19AnswersInLowestTermsForEachBundle(Check check) {
        forEachBundle((net, axis, top, bottom) -> {
            check.due("numerator(1, " + axis + ")", net.numerator(1, axis), top);
            check.due("denominator(1, " + axis + ")", net.denominator(1, axis), bottom);
            check.due("denominator(0, " + axis + ")", net.denominator(0, axis), 1);
        });
    }

    @Sentence(in = "Promise 19", says = "Returns the denominator, at least 1;")
    static void p19AnswersALargeOne(Check check) {
        // The largest that a search among full nets of six vertices found; solved elsewhere.
        PeriodicNet net = Nets.of(6, Nets.edge(0, 1, -2, 2), Nets.edge(0, 2, -2, 2),
            Nets.edge(0, 3, -1, 1), Nets.edge(0, 5, -2, -2), Nets.edge(1, 2, 2, -1),
            Nets.edge(1, 3, -2, 2), Nets.edge(1, 4, -1, 1), Nets.edge(1, 5, -2, 1),
            Nets.edge(2, 4, -2, 2), Nets.edge(3, 4, 1, -2), Nets.edge(3, 5, 2, 1),
            Nets.edge(4, 5, 2, -2));
        long[][] at = {Nets.at(0, 1, 0, 1), Nets.at(35, 24, -7, 12), Nets.at(53, 72, -13, 36),
            Nets.at(1081, 360, -293, 180), Nets.at(11, 4, -3, 2), Nets.at(649, 360, -77, 180)};
        for (int v = 0; v < 6; v++) {
            Nets.duePosition(check, net, v, at[v]);
        }
    }

    @Sentence(in = "Promise 19", says = "OUT_OF_RANGE if an argument is out of range;")
    static void p19RefusesAVertexThatIsNone(Check check) {
        PeriodicNet net = Nets.honeycomb();
        for (int v : NO_VERTEX_OF_TWO) {
            check.refused("denominator(" + v + ", 0)", net, -2, () -> net.denominator(v, 0));
        }
    }

    @Sentence(in = "Promise 19", says = "OUT_OF_RANGE if an argument is out of range;")
    static void p19RefusesAnAxisThatIsNone(Check check) {
        PeriodicNet net = Nets.honeycomb();
        for (int axis : NO_AXIS) {
            check.refused("denominator(1, " + axis + ")", net, -2,
                () -> net.denominator(1, axis));
        }
    }

    @Sentence(in = "Promise 19", says = "NOT_CONNECTED if the quotient graph is not connected.")
    static void p19RefusesEachVertexOfPieces(Check check) {
        PeriodicNet net = pieces();
        for (int v = 0; v < 3; v++) {
            int at = v;
            check.refused("denominator(" + v + ", 0)", net, -6, () -> net.denominator(at, 0));
            check.refused("denominator(" + v + ", 1)", net, -6, () -> net.denominator(at, 1));
        }
    }

    // ---- promise 20

    @Sentence(in = "Promise 20", says = "Returns 1 if they collide, 0 if they do not;")
    static void p20Answers1And0InEitherOrder(Check check) {
        // Vertices 1 and 3 are whole cells from 0; vertex 2 is half a cell from all others.
        PeriodicNet net = Nets.of(4, Nets.edge(0, 1, 1, -2), Nets.edge(0, 2, 0, 0),
            Nets.edge(0, 2, 1, 0), Nets.edge(3, 0, 2, 2));
        for (int v = 0; v < 4; v++) {
            for (int w = 0; w < 4; w++) {
                int a = v;
                int b = w;
                if (v != w) {
                    check.quiet("collide(" + v + ", " + w + ")", net, v == 2 || w == 2 ? 0 : 1,
                        () -> net.collide(a, b));
                }
            }
        }
    }

    @Sentence(in = "Promise 20", says = "`v`: a vertex")
    static void p20TakesEachVertex(Check check) {
        PeriodicNet net = Nets.with(longRow(), Nets.edge(4, 5, 1, -2));
        for (int v = 0; v < 5; v++) {
            check.due("collide(" + v + ", 5)", net.collide(v, 5), 0);
            check.due("collide(5, " + v + ")", net.collide(5, v), 0);
            check.due("collide of " + v + " and the next", net.collide(v, (v + 1) % 5), 1);
        }
    }

    @Sentence(in = "Promise 20", says = "`w`: another vertex")
    static void p20TakesTheFirstAndTheLastVertex(Check check) {
        PeriodicNet net = longRow();
        check.due("collide(0, 5)", net.collide(0, 5), 1);
        check.due("collide(5, 0)", net.collide(5, 0), 1);
        check.due("collide(0, 1) of hexagons", Nets.honeycomb().collide(0, 1), 0);
    }

    @Sentence(in = "Promise 20", says = "OUT_OF_RANGE if there is no such vertex")
    static void p20RefusesAVertexThatIsNone(Check check) {
        PeriodicNet net = Nets.honeycomb();
        for (int v : NO_VERTEX_OF_TWO) {
            check.refused("collide(" + v + ", 0)", net, -2, () -> net.collide(v, 0));
            check.refused("collide(1, " + v + ")", net, -2, () -> net.collide(1, v));
        }
    }

    @Sentence(in = "Promise 20", says = "or v equals w;")
    static void p20RefusesAVertexWithItself(Check check) {
        PeriodicNet net = longRow();
        for (int v = 0; v < 6; v++) {
            int twice = v;
            check.refused("collide of one", net, -2, () -> net.collide(twice, twice));
        }
        PeriodicNet one = new PeriodicNet();
        check.refused("collide(0, 0) of a new object", one, -2, () -> one.collide(0, 0));
    }

    @Sentence(in = "Promise 20", says = "NOT_CONNECTED if the quotient graph is not connected.")
    static void p20RefusesPieces(Check check) {
        PeriodicNet net = pieces();
        check.refused("collide(0, 1) in one piece", net, -6, () -> net.collide(0, 1));
        check.refused("collide(1, 2) in two", net, -6, () -> net.collide(1, 2));
        net.addEdge(1, 2, 0, 0);
        check.quiet("collide(1, 2) when joined", net, 1, () -> net.collide(1, 2));
    }

    // ---- promise 21

    @Sentence(in = "Promise 21", says = "Returns the number of pairs, each counted once;")
    static void p21Answers0And1And15(Check check) {
        PeriodicNet net = new PeriodicNet();
        check.quiet("collisions() of one vertex", net, 0, net::collisions);
        PeriodicNet two = Nets.row(2);
        check.quiet("collisions() of a pair", two, 1, two::collisions);
        PeriodicNet six = longRow();
        check.quiet("collisions() of six", six, 15, six::collisions);
        PeriodicNet hexagons = Nets.honeycomb();
        check.quiet("collisions() of hexagons", hexagons, 0, hexagons::collisions);
    }

    @Sentence(in = "Promise 21", says = "Counts the pairs of colliding vertices.")
    static void p21CountsPairsAwayFromVertex0(Check check) {
        // Vertices 1 and 2 are half a cell from 0, vertices 3 to 5 half a cell the other way.
        PeriodicNet net = new PeriodicNet();
        net.reset(6);
        for (int v = 1; v <= 5; v++) {
            net.addEdge(0, v, 0, 0);
            net.addEdge(v, 0, v < 3 ? 1 : 0, v < 3 ? 0 : 1);
        }
        check.due("collisions()", net.collisions(), 4);
        for (int v = 1; v <= 5; v++) {
            check.due("collide(0, " + v + ")", net.collide(0, v), 0);
        }
        check.due("collide(1, 2)", net.collide(1, 2), 1);
        check.due("collide(2, 3)", net.collide(2, 3), 0);
        check.due("collide(4, 5)", net.collide(4, 5), 1);
    }

    @Sentence(in = "Promise 21", says = "NOT_CONNECTED if the quotient graph is not connected.")
    static void p21RefusesPieces(Check check) {
        PeriodicNet net = pieces();
        check.refused("collisions()", net, -6, net::collisions);
        PeriodicNet bare = Nets.of(6);
        check.refused("collisions() without edges", bare, -6, bare::collisions);
    }

    // ---- promise 22

    @Sentence(in = "Promise 22", says = "the numerator, converted to float, divided by the "
        + "denominator, converted to float.")
    static void p22DividesForEachBundle(Check check) {
        forEachBundle((net, axis, top, bottom) -> check.due("positionBits(1, " + axis + ") of "
            + top + "/" + bottom, net.positionBits(1, axis),
            Float.floatToIntBits((float) top / (float) bottom)));
    }

    @Sentence(in = "Promise 22",
        says = "Returns the bits of the float as Float.floatToIntBits gives them;")
    static void p22AnswersNoBitsForZero(Check check) {
        PeriodicNet net = Nets.of(2, Nets.edge(0, 1, -1, 0), Nets.edge(0, 1, 1, 0));
        for (int v = 0; v < 2; v++) {
            int at = v;
            check.quiet("positionBits(" + v + ", 0)", net, 0, () -> net.positionBits(at, 0));
            check.quiet("positionBits(" + v + ", 1)", net, 0, () -> net.positionBits(at, 1));
        }
        check.due("positionBits of one vertex", new PeriodicNet().positionBits(0, 1), 0);
    }

    @Sentence(in = "Promise 22",
        says = "Returns the bits of the float as Float.floatToIntBits gives them;")
    static void p22AnswersSignExponentAndFraction(Check check) {
        PeriodicNet net = longRow();
        int[] bits = {0, 0x40000000, 0x40800000, 0x40c00000, 0x41000000, 0x41200000};
        for (int v = 1; v < 6; v++) {
            int at = v;
            check.quiet("positionBits(" + v + ", 1)", net, bits[v],
                () -> net.positionBits(at, 1));
            check.quiet("positionBits(" + v + ", 0)", net, bits[v] | Integer.MIN_VALUE,
                () -> net.positionBits(at, 0));
        }
        PeriodicNet thirds = Nets.honeycomb();
        check.due("positionBits of 1/3, rounded up", thirds.positionBits(1, 0), 0x3eaaaaab);
        thirds.removeEdge(0);
        thirds.addEdge(0, 1, -1, 1);
        check.due("positionBits of 2/3, rounded up", thirds.positionBits(1, 0), 0x3f2aaaab);
        thirds.addEdge(0, 1, 1, 1);
        thirds.addEdge(0, 1, 0, 1);
        check.due("positionBits of 1/5, rounded up", thirds.positionBits(1, 0), 0x3e4ccccd);
        check.due("positionBits of -2/5, rounded up", thirds.positionBits(1, 1), 0xbecccccd);
        PeriodicNet sixths = Nets.of(2, Nets.edge(1, 0, 2, 0), Nets.edge(1, 0, 2, 1),
            Nets.edge(1, 0, 1, 0), Nets.edge(1, 0, 0, 0), Nets.edge(1, 0, 0, 1),
            Nets.edge(1, 0, 0, 2));
        check.due("positionBits of 5/6, rounded down", sixths.positionBits(1, 0), 0x3f555555);
    }

    @Sentence(in = "Promise 22", says = "`v`: a vertex")
    static void p22TakesTheFirstAndTheLastVertex(Check check) {
        PeriodicNet net = longRow();
        check.due("positionBits(0, 1)", net.positionBits(0, 1), 0);
        check.due("positionBits(5, 1)", net.positionBits(5, 1), 0x41200000);
    }

    @Sentence(in = "Promise 22", says = "`axis`: 0 for the first coordinate, 1 for the second")
    static void p22TellsTheAxesApart(Check check) {
        PeriodicNet net = Nets.of(6, Nets.rowEdges(6, -1, 2));
        check.due("positionBits(1, 0)", net.positionBits(1, 0), 0x3f800000);
        check.due("positionBits(1, 1)", net.positionBits(1, 1), 0xc0000000);
        check.due("positionBits(5, 0)", net.positionBits(5, 0), 0x40a00000);
    }

    @Sentence(in = "Promise 22", says = "OUT_OF_RANGE if an argument is out of range;")
    static void p22RefusesAVertexThatIsNone(Check check) {
        PeriodicNet net = Nets.honeycomb();
        for (int v : NO_VERTEX_OF_TWO) {
            check.refused("positionBits(" + v + ", 0)", net, -2, () -> net.positionBits(v, 0));
        }
    }

    @Sentence(in = "Promise 22", says = "OUT_OF_RANGE if an argument is out of range;")
    static void p22RefusesAnAxisThatIsNone(Check check) {
        PeriodicNet net = Nets.honeycomb();
        for (int axis : NO_AXIS) {
            check.refused("positionBits(1, " + axis + ")", net, -2,
                () -> net.positionBits(1, axis));
        }
    }

    @Sentence(in = "Promise 22", says = "NOT_CONNECTED if the quotient graph is not connected.")
    static void p22RefusesEachVertexOfPieces(Check check) {
        PeriodicNet net = pieces();
        for (int v = 0; v < 3; v++) {
            int at = v;
            check.refused("positionBits(" + v + ", 0)", net, -6, () -> net.positionBits(at, 0));
            check.refused("positionBits(" + v + ", 1)", net, -6, () -> net.positionBits(at, 1));
        }
    }
}
