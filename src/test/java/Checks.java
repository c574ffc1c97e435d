/** Counts answers that are not as due, and prints the first of them. */
final class Checks {
    private static final int MOST_PRINTED = 50;
    private int made = 0;
    private int wrong = 0;

    void due(String call, long got, long want) {
        made++;
        if (got != want) {
            wrong++;
            if (wrong <= MOST_PRINTED) {
                System.out.println(call + " answered " + got + ", due is " + want);
            }
        }
    }

    void holds(String what, boolean so) {
        due(what, so ? 1 : 0, 1);
    }

    int made() {
        return made;
    }

    int wrong() {
        return wrong;
    }

    /** Ends the program: with exit code 1, if an answer was wrong. */
    void end(String name) {
        System.out.println(name + ": " + made + " checks, " + wrong + " wrong");
        if (wrong != 0 || made == 0) {
            System.exit(1);
        }
    }
}
