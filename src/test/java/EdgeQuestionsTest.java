import java.util.function.ToIntFunction;

/** The document names no change for the six questions, so all answers after one are as before it. */
public final class EdgeQuestionsTest {
    private static final int[] ARGUMENTS = {0, 1, 5, 15, 16, -1, 65535, 65536, Integer.MIN_VALUE};

    public static void main(String[] args) {
        changesNothing("possible()", SoftSolver::possible);
        changesNothing("loss()", SoftSolver::loss);
        changesNothing("best()", SoftSolver::best);
        changesNothing("kept()", SoftSolver::kept);
        for (int argument : ARGUMENTS) {
            changesNothing("lossWith(" + argument + ")", x -> x.lossWith(argument));
            changesNothing("lossAgainst(" + argument + ")", x -> x.lossAgainst(argument));
        }
        Due.end();
    }

    private static void changesNothing(String call, ToIntFunction<SoftSolver> question) {
        for (int count : Made.COUNTS) {
            Same.answers("after " + call + " at " + count,
                    () -> asked(Made.mixed(count), question), () -> Made.mixed(count));
        }
        Same.answers("after " + call + ", none allowed",
                () -> asked(Made.impossible(9), question), () -> Made.impossible(9));
    }

    private static SoftSolver asked(SoftSolver x, ToIntFunction<SoftSolver> question) {
        question.applyAsInt(x);
        return x;
    }
}
