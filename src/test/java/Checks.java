/** Counts and prints the answers that are not the ones that are due. */
final class Checks {
    private int wrong;
    private int answers;
    private String prefix = "";

    void due(String what, long got, long want) {
        answers++;
        if (got != want) {
            wrong++;
            System.out.println(prefix + what + ": answered " + got + ", due is " + want);
        }
    }

    void due(String what, boolean got, boolean want) {
        due(what, got ? 1 : 0, want ? 1 : 0);
    }

    /** Runs the test of one sentence of the document; one that looks at no answer is no test. */
    void sentence(String part, String quoted, Runnable test) {
        prefix = part + ", \"" + quoted + "\": ";
        int before = answers;
        test.run();
        due("has a test", answers > before, true);
        prefix = "";
    }

    void end() {
        System.out.println(wrong == 0 ? "all answers are as due" : wrong + " answers are not as due");
        if (wrong != 0) {
            System.exit(1);
        }
    }
}
