/** Counts what is not as due, and tells of it. */
final class Check {
    private final String name;
    private int checks = 0;
    private int wrong = 0;
    private String topic = "";

    Check(String name) {
        this.name = name;
    }

    /** What the checks that follow are about. */
    void about(String newTopic) {
        topic = newTopic;
    }

    void due(String what, long got, long want) {
        checks++;
        if (got != want) tell(what + " answered " + got + ", due is " + want);
    }

    void due(String what, String got, String want) {
        checks++;
        if (!got.equals(want)) tell(what + " answered " + got + ", due is " + want);
    }

    void holds(String what, boolean is) {
        checks++;
        if (!is) tell(what);
    }

    private void tell(String what) {
        wrong++;
        if (wrong <= 40) System.out.println(name + ", " + topic + ": " + what);
    }

    /** Ends the program with exit code 1 if anything was not as due, or nothing was checked. */
    void end() {
        System.out.println(name + ": " + checks + " checks, " + wrong + " wrong");
        if (wrong > 0 || checks == 0) System.exit(1);
    }
}
