/** Counts what was checked, and prints every answer that is not the one that is due. */
final class Checks {
    private String about = "";
    private int checked = 0;
    private int wrong = 0;

    void about(String topic) {
        about = topic;
    }

    void due(String call, long got, long want) {
        checked++;
        if (got != want) {
            wrong++;
            System.out.println(about + ": " + call + " answered " + got + ", due is " + want);
        }
    }

    void due(String call, boolean got, boolean want) {
        due(call, got ? 1L : 0L, want ? 1L : 0L);
    }

    void holds(String what, boolean truth) {
        checked++;
        if (!truth) {
            wrong++;
            System.out.println(about + ": " + what);
        }
    }

    int checked() {
        return checked;
    }

    int wrong() {
        return wrong;
    }

    /** Ends the program with exit code 1 if an answer was wrong or nothing was checked. */
    void close() {
        System.out.println(checked + " answers looked at, " + wrong + " wrong");
        if (wrong > 0 || checked == 0) {
            System.exit(1);
        }
    }
}
