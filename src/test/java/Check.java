/** Counts the answers of one test class, and tells those that are not as due. */
final class Check {
    private final String name;
    private int right = 0;
    private int wrong = 0;

    Check(String name) {
        this.name = name;
    }

    void due(String call, long want, long got) {
        if (want == got) {
            right++;
        } else {
            wrong++;
            System.out.println(name + ": " + call + " answered " + got + ", due is " + want);
        }
    }

    void due(String call, boolean want, boolean got) {
        due(call, want ? 1 : 0, got ? 1 : 0);
    }

    /** Just these numbers lie there, in their order. */
    void lies(String when, CricketHay x, int... due) {
        due(when + ": how many lie there", due.length, x.about(13));
        for (int i = 0; i < due.length; i++) {
            due(when + ": lies(" + i + ")", due[i], x.lies(i));
        }
        due(when + ": lies behind", -100, x.lies(due.length));
        due(when + ": lies(-1)", -100, x.lies(-1));
    }

    /** Tells how it went; the process fails if an answer was wrong. */
    void end() {
        System.out.println(name + ": " + right + " answers as due, " + wrong + " not");
        if (wrong != 0 || right == 0) {
            System.exit(1);
        }
    }
}
