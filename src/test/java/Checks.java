/** Counts answers that are not as due. */
final class Checks {
    private int asked = 0;
    private int wrong = 0;

    void due(String call, long got, long want) {
        asked++;
        if (got != want) {
            wrong++;
            System.out.println(call + " answered " + got + ", due is " + want);
        }
    }

    void due(String call, String got, String want) {
        asked++;
        if (!got.equals(want)) {
            wrong++;
            System.out.println(call + " answered <" + got + ">, due is <" + want + ">");
        }
    }

    /** Ends with exit code 1 if there was a wrong one. */
    void close(String name) {
        System.out.println(name + ": " + asked + " asked, " + wrong + " wrong");
        if (wrong > 0) {
            System.exit(1);
        }
    }
}
