/** Counts the answers of a test, prints each one that is not due, and ends the test. */
final class Check {
    private static final int MOST_PRINTED = 50;

    private static int asked = 0;
    private static int wrong = 0;
    private static String within = "";

    private Check() {
    }

    /** What comes now belongs to this test, whose name stands ahead of what is printed; "" to none. */
    static void within(String test) {
        within = test.isEmpty() ? "" : test + ": ";
    }

    static void due(String call, long got, long want) {
        asked++;
        if (got != want) {
            wrong++;
            if (wrong <= MOST_PRINTED) {
                System.out.println(within + call + " answered " + got + ", due is " + want);
            }
        }
    }

    static void holds(String what, boolean so) {
        due(what, so ? 1 : 0, 1);
    }

    static int asked() {
        return asked;
    }

    static void close(String test) {
        System.out.println(test + ": " + (asked - wrong) + " of " + asked + " answers as due");
        if (wrong > 0 || asked == 0) {
            System.exit(1);
        }
    }
}
