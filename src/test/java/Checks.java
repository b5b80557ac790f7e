/** Counts and prints the answers that are not as due. */
final class Checks {
    private int checked = 0;
    private int wrong = 0;

    void due(String call, long got, long want) {
        checked++;
        if (got != want) {
            wrong++;
            // A broken promise can make thousands of answers wrong; the first ones tell enough.
            if (wrong <= 40) {
                System.out.println(call + " answered " + got + ", due is " + want);
            }
        }
    }

    void holds(String what, boolean good) {
        due(what, good ? 1 : 0, 1);
    }

    /** Ends the test: prints the count, and leaves with exit code 1 if an answer was wrong. */
    void end(String test) {
        System.out.println(test + ": " + checked + " answers checked, " + wrong + " wrong");
        if (wrong != 0 || checked == 0) {
            System.exit(1);
        }
    }
}
