import java.util.function.LongSupplier;

/** Counts and prints the answers that are not the ones that are due. */
final class Check {
    private final String name;
    private int wrong = 0;
    private int looked = 0;

    Check(String name) {
        this.name = name;
    }

    void due(String call, long got, long want) {
        looked++;
        if (got != want) {
            wrong++;
            if (wrong <= 40) {
                System.out.println(name + ": " + call + " answered " + got + ", due is " + want);
            }
        }
    }

    void holds(String what, boolean yes) {
        due(what, yes ? 1 : 0, 1);
    }

    /** The call answers this code, counts it once, and changes nothing else that digest tells. */
    void refused(String call, PeriodicNet net, int code, LongSupplier run) {
        long before = net.digest();
        due(call, run.getAsLong(), code);
        due("what " + call + " adds to digest()", net.digest() - before, oneMore(net, code));
    }

    /** The call gives this answer and changes nothing that digest tells, no counter either. */
    void quiet(String call, PeriodicNet net, long want, LongSupplier run) {
        long before = net.digest();
        due(call, run.getAsLong(), want);
        due("what " + call + " adds to digest()", net.digest() - before, 0);
    }

    /** What one more in the counter of a code adds: 31 for each of the values that follow it. */
    private static long oneMore(PeriodicNet net, int code) {
        int n = net.vertices();
        int values = 8 + 4 * net.edges() + 7 * n + 1 + (net.isConnected() == 1 ? 4 * n : 0) + 1;
        long more = 1;
        for (int k = -1 - code; k < values; k++) {
            more *= 31;
        }
        return more;
    }

    int wrong() {
        return wrong;
    }

    int looked() {
        return looked;
    }

    /** Ends the program: with exit code 1 if an answer was wrong, or if none was looked at. */
    void end() {
        System.out.println(name + ": " + looked + " answers, " + wrong + " not as due");
        if (wrong != 0 || looked == 0) {
            System.exit(1);
        }
    }
}
