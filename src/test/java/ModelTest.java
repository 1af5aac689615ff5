import java.util.Random;
import java.util.TreeMap;
import java.util.TreeSet;

/**
 * Runs of calls on a PeriodicNet and on a Model, compared answer by answer. The runs are the same
 * every time, for their random numbers begin with the number of the run. At the end the test looks
 * whether the runs have met every error code of every method, and every size of a ring.
 */
public final class ModelTest {
    private static final Check CHECK = new Check("ModelTest");
    private static final int RUNS = 240;
    private static final int CALLS = 220;
    private static final String[] NAMES = {"reset", "addEdge", "removeEdge", "findEdge",
        "moveVertex", "changeBasis", "vertices", "edges", "degree", "neighbour", "coordination",
        "distance", "rank", "index", "isConnected", "ring", "numerator", "denominator", "collide",
        "collisions", "positionBits", "undo", "errorCount", "digest"};
    /** How often each method is called beside the others. */
    private static final int[] WEIGHTS = {2, 30, 4, 6, 10, 6, 1, 1, 3, 5, 6, 8, 3, 4, 2, 24, 6, 6,
        6, 5, 6, 8, 4, 6};
    private static final TreeMap<String, TreeSet<Long>> MET = new TreeMap<>();

    private ModelTest() {
    }

    public static void main(String[] args) {
        for (int run = 0; run < RUNS; run++) {
            compare(run);
        }
        dueMet("reset", -2);
        dueMet("addEdge", -2, -3, -4, 11);
        dueMet("removeEdge", -2, 11);
        dueMet("findEdge", -2, -1, 0, 11);
        dueMet("moveVertex", -2, -5, 0, 6);
        dueMet("changeBasis", -2, -5, 0, 6);
        dueMet("degree", -2, 0, 8);
        dueMet("neighbour", -2, 0, 5);
        dueMet("coordination", -2, 0, 1);
        dueMet("distance", -2, -1, 0, 1, 2, 3, 4, 5, 6, 7, 8);
        dueMet("rank", -2, 0, 1, 2);
        dueMet("index", -2, -1, 1, 2, 3, 4, 5, 8, 12);
        dueMet("isConnected", 0, 1);
        dueMet("ring", -2, -1, 3, 4, 5, 6, 7, 8, 9, 10, 11, 12);
        dueMet("numerator", -2, -6, 0, 1, -1);
        dueMet("denominator", -2, -6, 1, 2, 3, 5, 7);
        dueMet("collide", -2, -6, 0, 1);
        dueMet("collisions", -6, 0, 1, 3, 15);
        dueMet("positionBits", -2, -6, 0);
        dueMet("undo", -7, 0, 1, 2, 3, 4);
        dueMet("errorCount", -2, 0, 9);
        CHECK.end();
    }

    private static void dueMet(String method, long... answers) {
        for (long answer : answers) {
            boolean met = MET.getOrDefault(method, new TreeSet<>()).contains(answer);
            CHECK.holds("a run in which " + method + " answers " + answer, met);
        }
    }

    private static void compare(int run) {
        Random random = new Random(run);
        PeriodicNet net = new PeriodicNet();
        Model model = new Model();
        // Sparse runs have the long rings, crowded ones the full net.
        int crowd = run % 3;
        both(run, net, model, 0, 1 + random.nextInt(6), 0, 0, 0);
        for (int k = 0; k < CALLS; k++) {
            int method = pick(random, crowd);
            int n = (int) model.vertices();
            int a = vertex(random, n);
            int[] more = {small(random, 8), small(random, 8), small(random, 8)};
            switch (method) {
                case 0 -> a = random.nextInt(12) == 0 ? small(random, 9) : 1 + random.nextInt(6);
                case 1, 3 -> more = new int[] {vertex(random, n), shift(random), shift(random)};
                case 2 -> a = small(random, 14);
                case 4 -> more = new int[] {shift(random) / 2, shift(random) / 2, 0};
                case 5 -> a = random.nextInt(9) == 0 ? small(random, 9) : random.nextInt(4);
                case 9 -> more[0] = random.nextInt(9) == 0 ? small(random, 30) : random.nextInt(5);
                case 10 -> more[0] = random.nextInt(10);
                case 11 -> more[0] = vertex(random, n);
                case 15 -> more = new int[] {random.nextInt(4), random.nextInt(4), 0};
                case 16, 17, 20 -> more[0] = random.nextInt(15) == 0 ? small(random, 3)
                    : random.nextInt(2);
                case 18 -> more[0] = vertex(random, n);
                case 22 -> a = -random.nextInt(10);
                default -> {
                }
            }
            both(run, net, model, method, a, more[0], more[1], more[2]);
        }
        both(run, net, model, 23, 0, 0, 0, 0);
    }

    private static int pick(Random random, int crowd) {
        int sum = 0;
        for (int method = 0; method < WEIGHTS.length; method++) {
            sum += weight(method, crowd);
        }
        int ticket = random.nextInt(sum);
        for (int method = 0; method < WEIGHTS.length; method++) {
            ticket -= weight(method, crowd);
            if (ticket < 0) {
                return method;
            }
        }
        return 0;
    }

    private static int weight(int method, int crowd) {
        if (method == 2) {
            return crowd == 0 ? 18 : 2;
        }
        return method == 0 && crowd == 2 ? 1 : WEIGHTS[method];
    }

    private static int vertex(Random random, int n) {
        return random.nextInt(40) == 0 ? small(random, 8) : random.nextInt(n);
    }

    private static int shift(Random random) {
        if (random.nextInt(40) == 0) {
            return small(random, 4);
        }
        return random.nextInt(3) == 0 ? random.nextInt(5) - 2 : random.nextInt(3) - 1;
    }

    /** A number near 0, and now and then one far from it. */
    private static int small(Random random, int limit) {
        int[] far = {Integer.MIN_VALUE, Integer.MIN_VALUE + 1, -100, 100, Integer.MAX_VALUE};
        if (random.nextInt(60) == 0) {
            return far[random.nextInt(far.length)];
        }
        return random.nextInt(2 * limit + 1) - limit;
    }

    private static void both(int run, PeriodicNet net, Model model, int method, int a, int b,
            int c, int d) {
        long want = modelAnswer(model, method, a, b, c, d);
        long got = netAnswer(net, method, a, b, c, d);
        String name = NAMES[method];
        CHECK.due("run " + run + ": " + name + " of " + a + ", " + b + ", " + c + ", " + d, got,
            want);
        MET.computeIfAbsent(name, key -> new TreeSet<>()).add(want);
    }

    private static long netAnswer(PeriodicNet x, int method, int a, int b, int c, int d) {
        return switch (method) {
            case 0 -> x.reset(a);
            case 1 -> x.addEdge(a, b, c, d);
            case 2 -> x.removeEdge(a);
            case 3 -> x.findEdge(a, b, c, d);
            case 4 -> x.moveVertex(a, b, c);
            case 5 -> x.changeBasis(a);
            case 6 -> x.vertices();
            case 7 -> x.edges();
            case 8 -> x.degree(a);
            case 9 -> x.neighbour(a, b);
            case 10 -> x.coordination(a, b);
            case 11 -> x.distance(a, b, c, d);
            case 12 -> x.rank(a);
            case 13 -> x.index(a);
            case 14 -> x.isConnected();
            case 15 -> x.ring(a, b, c);
            case 16 -> x.numerator(a, b);
            case 17 -> x.denominator(a, b);
            case 18 -> x.collide(a, b);
            case 19 -> x.collisions();
            case 20 -> x.positionBits(a, b);
            case 21 -> x.undo();
            case 22 -> x.errorCount(a);
            default -> x.digest();
        };
    }

    private static long modelAnswer(Model x, int method, int a, int b, int c, int d) {
        return switch (method) {
            case 0 -> x.reset(a);
            case 1 -> x.addEdge(a, b, c, d);
            case 2 -> x.removeEdge(a);
            case 3 -> x.findEdge(a, b, c, d);
            case 4 -> x.moveVertex(a, b, c);
            case 5 -> x.changeBasis(a);
            case 6 -> x.vertices();
            case 7 -> x.edges();
            case 8 -> x.degree(a);
            case 9 -> x.neighbour(a, b);
            case 10 -> x.coordination(a, b);
            case 11 -> x.distance(a, b, c, d);
            case 12 -> x.rank(a);
            case 13 -> x.index(a);
            case 14 -> x.isConnected();
            case 15 -> x.ring(a, b, c);
            case 16 -> x.numerator(a, b);
            case 17 -> x.denominator(a, b);
            case 18 -> x.collide(a, b);
            case 19 -> x.collisions();
            case 20 -> x.positionBits(a, b);
            case 21 -> x.undo();
            case 22 -> x.errorCount(a);
            default -> x.digest();
        };
    }
}
