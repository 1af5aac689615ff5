import java.lang.management.ManagementFactory;

/**
 * What an object and its calls allocate. LANGUAGE.md and the room of a run ask for little: all is
 * made in the constructor, and no call makes anything.
 */
public final class RoomTest {
    private static final Check CHECK = new Check("RoomTest");
    /** An object is used for 512 calls: 12 make it, and 29 are in each round. */
    private static final int ROUNDS = 17;
    private static long sum = 0;

    private RoomTest() {
    }

    public static void main(String[] args) {
        // The first rounds load what the machine loads but once.
        for (int round = 0; round < 3; round++) {
            everyCall(crowded());
        }
        long before = allocated();
        PeriodicNet x = crowded();
        long made = allocated() - before;
        CHECK.holds("an object takes " + made + " bytes, fewer than 120000", made < 120_000);
        before = allocated();
        for (int k = 0; k < ROUNDS; k++) {
            everyCall(x);
        }
        made = allocated() - before;
        CHECK.holds("the calls made " + made + " bytes, fewer than 4096", made < 4096);
        System.out.println("RoomTest: sum of all answers " + sum);
        CHECK.end();
    }

    private static long allocated() {
        var threads = (com.sun.management.ThreadMXBean) ManagementFactory.getThreadMXBean();
        return threads.getCurrentThreadAllocatedBytes();
    }

    private static PeriodicNet crowded() {
        PeriodicNet x = new PeriodicNet();
        x.reset(6);
        for (int k = 0; k < 11; k++) {
            x.addEdge(k % 6, (k + 1) % 6, k < 6 ? 2 : -1, k < 6 ? 1 : 2);
        }
        return x;
    }

    private static void everyCall(PeriodicNet x) {
        sum += x.addEdge(0, 0, 2, 2) + x.findEdge(0, 0, 2, 2) + x.addEdge(0, 0, 2, 2);
        sum += x.removeEdge(11) + x.moveVertex(0, 1, 0) + x.changeBasis(3) + x.changeBasis(3);
        sum += x.undo() + x.undo() + x.reset(9) + x.vertices() + x.edges() + x.degree(3);
        sum += x.neighbour(3, 1) + x.coordination(2, 8) + x.distance(1, 4, 8, -8) + x.rank(5);
        sum += x.index(5) + x.isConnected() + x.ring(0, 0, 1) + x.numerator(4, 1);
        sum += x.denominator(4, 1) + x.collide(1, 2) + x.collisions() + x.positionBits(3, 0);
        sum += x.errorCount(-2) + x.digest() + x.reset(1) + x.undo();
    }
}
