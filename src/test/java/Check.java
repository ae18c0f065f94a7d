import java.util.Set;
import java.util.TreeSet;

/** Counts what is not as due, and tells of it. */
final class Check {
    private final String name;
    private int checks = 0;
    private int wrong = 0;
    private String topic = "";
    private final Set<String> checked = new TreeSet<>();

    Check(String name) {
        this.name = name;
    }

    /** What the checks that follow are about. */
    void about(String newTopic) {
        topic = newTopic;
    }

    void due(String what, long got, long want) {
        count();
        if (got != want) tell(what + " answered " + got + ", due is " + want);
    }

    void due(String what, String got, String want) {
        count();
        if (!got.equals(want)) tell(what + " answered " + got + ", due is " + want);
    }

    void holds(String what, boolean is) {
        count();
        if (!is) tell(what);
    }

    /** Whether anything was checked about it so far. */
    boolean wasAbout(String oldTopic) {
        return checked.contains(oldTopic);
    }

    private void count() {
        checks++;
        checked.add(topic);
    }

    private void tell(String what) {
        wrong++;
        if (wrong <= 40) System.out.println(name + ", " + topic + ": " + what);
    }

    /** Ends the program with exit code 1 if anything was not as due, or nothing was checked. */
    void end() {
        System.out.println(name + ": " + checks + " checks, " + wrong + " wrong");
        if (wrong > 0 || checks == 0) System.exit(1);
    }
}
