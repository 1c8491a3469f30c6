/** Counts what is not as due; each test's main method ends with close(). */
final class Check {
    private final String name;
    private String part = "";
    private int looked;
    private int wrong;

    Check(String name) {
        this.name = name;
    }

    /** What the next answers belong to. */
    void named(String newPart) {
        part = newPart.isEmpty() ? "" : " [" + newPart + "]";
    }

    void due(String call, long got, long want) {
        looked++;
        if (got != want) {
            tell(call, String.valueOf(got), String.valueOf(want));
        }
    }

    void due(String call, boolean got, boolean want) {
        due(call, got ? 1 : 0, want ? 1 : 0);
    }

    void due(String call, String got, String want) {
        looked++;
        if (!got.equals(want)) {
            tell(call, got, want);
        }
    }

    private void tell(String call, String got, String want) {
        wrong++;
        System.out.println(name + part + ": " + call + " answered " + got + ", due is " + want);
    }

    int looked() {
        return looked;
    }

    int wrong() {
        return wrong;
    }

    void close() {
        System.out.println(name + ": " + looked + " answers looked at, " + wrong + " not as due");
        if (wrong != 0 || looked == 0) {
            System.exit(1);
        }
    }
}
