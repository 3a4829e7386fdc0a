/** Counts the answers that are not the ones due, and prints them. */
final class Check {
    static final int MAX = Integer.MAX_VALUE;
    static final int MIN = Integer.MIN_VALUE;

    private int wrong = 0;
    private int made = 0;
    private String part = "";

    /** Names what the next answers belong to. */
    void part(String name) {
        part = name;
    }

    void due(String call, long got, long want) {
        made++;
        if (got != want) {
            wrong++;
            System.out.println(part + ": " + call + " answered " + got + ", due is " + want);
        }
    }

    void due(String what, boolean holds) {
        made++;
        if (!holds) {
            wrong++;
            System.out.println(part + ": " + what + " does not hold");
        }
    }

    /** Checks that the fabric looks as it did when the snapshot was taken. */
    void same(String call, State before, BenesFabric x) {
        due(call + " changes nothing", State.of(x).equals(before));
    }

    int wrong() {
        return wrong;
    }

    void end() {
        System.out.println(made + " answers looked at, " + wrong + " wrong");
        if (wrong != 0) {
            System.exit(1);
        }
    }
}
