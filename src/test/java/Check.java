/** Counts and prints the answers that are not due. */
final class Check {
    /** More of them would hide the first ones. */
    private static final int MOST_PRINTED = 40;
    private static int wrong = 0;
    private static int asked = 0;

    private Check() {
    }

    static void due(int promise, String call, long got, long want) {
        asked++;
        if (got != want) {
            wrong++;
        }
        if (got != want && wrong <= MOST_PRINTED) {
            System.out.println("promise " + promise + ": " + call + " answered " + got + ", due is " + want);
        }
    }

    /** Ends the program with exit code 1 if an answer was wrong, or if nothing was asked at all. */
    static void finish() {
        System.out.println(asked + " answers, " + wrong + " of them wrong");
        if (wrong != 0 || asked == 0) {
            System.exit(1);
        }
    }
}
