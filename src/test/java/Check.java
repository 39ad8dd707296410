/** Compares answers with what is due and counts those that differ. */
final class Check {
    private static final int MOST_REPORTS = 40;

    private final String title;
    private int wrong = 0;
    private int compared = 0;

    Check(String title) {
        this.title = title;
    }

    void due(String call, long got, long want) {
        compared++;
        if (got != want) {
            wrong++;
            if (wrong <= MOST_REPORTS) {
                System.out.println(title + ": " + call + " answered " + got + ", due is " + want);
            }
        }
    }

    boolean allDue() {
        return wrong == 0;
    }

    /** Ends the program, with exit code 1 if an answer was wrong. */
    void end() {
        System.out.println(title + ": " + compared + " answers compared, " + wrong + " wrong");
        if (wrong != 0) {
            System.exit(1);
        }
    }
}
