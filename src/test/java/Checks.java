/** Counts the answers that are not as due, and ends the test with their number. */
final class Checks {
    private int wrong;
    private int all;

    void due(String call, long got, long want) {
        all++;
        if (got != want) {
            wrong++;
            if (wrong <= 50) {
                System.out.println(call + " answered " + got + ", due is " + want);
            }
        }
    }

    void due(String call, boolean got, boolean want) {
        due(call, got ? 1 : 0, want ? 1 : 0);
    }

    boolean failed() {
        return wrong > 0;
    }

    void end() {
        System.out.println(all + " answers, " + wrong + " not as due");
        if (wrong > 0) {
            System.exit(1);
        }
    }
}
