import java.util.Objects;

/** Compares answers with those that are due, and counts. */
final class Check {
    private int right = 0;
    private int wrong = 0;

    void due(String what, long got, long want) {
        same(what, got, want);
    }

    void same(String what, Object got, Object want) {
        if (Objects.equals(got, want)) {
            right++;
            return;
        }
        wrong++;
        if (wrong <= 40) System.out.println(what + ": got " + got + ", due is " + want);
    }

    boolean allRight() {
        return wrong == 0;
    }

    /** Ends the program: with 1 if an answer was wrong, or if there was none at all. */
    void end(String test) {
        System.out.println(test + ": " + right + " answers as due, " + wrong + " not");
        if (wrong != 0 || right == 0) System.exit(1);
    }
}
