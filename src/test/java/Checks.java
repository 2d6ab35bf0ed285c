/** Compares answers with those that are due, and counts the wrong ones. */
final class Checks {
    private static final int MOST_PRINTED = 40;
    private int made = 0;
    private int wrong = 0;

    void due(String call, long got, long want) {
        made++;
        if (got != want) {
            wrong++;
            if (wrong <= MOST_PRINTED) {
                System.out.println(call + " answered " + got + ", due is " + want);
            }
        }
    }

    /** Ends the program with exit code 1 if an answer was wrong, or if nothing was compared. */
    void end() {
        System.out.println(made + " answers compared, " + wrong + " wrong");
        if (wrong != 0 || made == 0) {
            System.exit(1);
        }
    }
}
