/** Compares answers with those that are due, and prints those that differ. */
final class Due {
    private int wrong = 0;
    private int asked = 0;
    private String heading = "";

    /** What is compared from now on is told under this heading. */
    void begin(String words) {
        heading = words + ": ";
    }

    int asked() {
        return asked;
    }

    void due(String call, long got, long want) {
        asked++;
        if (got != want) {
            wrong++;
            System.out.println(heading + call + " answered " + got + ", due is " + want);
        }
    }

    void due(String call, boolean got, boolean want) {
        due(call, got ? 1 : 0, want ? 1 : 0);
    }

    void finish() {
        System.out.println(asked + " answers, " + wrong + " not as due");
        if (wrong != 0 || asked == 0) {
            System.exit(1);
        }
    }
}
