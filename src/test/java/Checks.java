/** Counts and prints the answers that are not as due. */
final class Checks {
    private String sentence = "";
    private int looked = 0;
    private int wrong = 0;

    /** The words of the document that the checks from here on stand for. */
    void sentence(String words) {
        sentence = words + " | ";
    }

    void due(String call, long got, long want) {
        looked++;
        if (got != want) {
            wrong++;
            System.out.println(sentence + call + " answered " + got + ", due is " + want);
        }
    }

    void due(String call, boolean got, boolean want) {
        due(call, got ? 1L : 0L, want ? 1L : 0L);
    }

    /** Whether two objects give the same answers to all questions. */
    void same(String what, DomainSolver got, DomainSolver want) {
        int[] answers = Solvers.answers(got);
        int[] wanted = Solvers.answers(want);
        for (int i = 0; i < answers.length; i++) {
            due(what + ": question " + i + " of Solvers.answers", answers[i], wanted[i]);
        }
    }

    int wrong() {
        return wrong;
    }

    /** Ends the test: with exit code 1 if an answer was wrong. */
    void end() {
        System.out.println(looked + " answers looked at, " + wrong + " not as due");
        if (wrong != 0) {
            System.exit(1);
        }
    }
}
