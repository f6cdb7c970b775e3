/** Counts the answers that are not the ones that are due, and prints each of them. */
final class Checks {
    private int seen;
    private int wrong;
    private String part = "";

    /** What the checks from here on belong to. */
    void part(String name) {
        part = name;
    }

    void due(String call, long answer, long want) {
        due(call, answer, answer == want, String.valueOf(want));
    }

    void due(String call, boolean answer, boolean want) {
        due(call, answer ? 1 : 0, want ? 1 : 0);
    }

    void due(String call, long answer, boolean isDue, String want) {
        seen++;
        if (!isDue) {
            wrong++;
            System.out.println(part + ": " + call + " answered " + answer + ", due is " + want);
        }
    }

    int wrong() {
        return wrong;
    }

    void end() {
        System.out.println(seen + " answers seen, " + wrong + " not as due");
        if (wrong != 0 || seen == 0) {
            System.exit(1);
        }
    }
}
