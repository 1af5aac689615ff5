/** Counts and prints the answers that are not the ones that are due. */
final class Check {
    private final String name;
    private int wrong = 0;
    private int looked = 0;

    Check(String name) {
        this.name = name;
    }

    void due(String call, long got, long want) {
        looked++;
        if (got != want) {
            wrong++;
            if (wrong <= 40) {
                System.out.println(name + ": " + call + " answered " + got + ", due is " + want);
            }
        }
    }

    void holds(String what, boolean yes) {
        due(what, yes ? 1 : 0, 1);
    }

    /** Ends the program: with exit code 1 if an answer was wrong, or if none was looked at. */
    void end() {
        System.out.println(name + ": " + looked + " answers, " + wrong + " not as due");
        if (wrong != 0 || looked == 0) {
            System.exit(1);
        }
    }
}
