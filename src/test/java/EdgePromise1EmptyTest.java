/** Promise 1: a new object has no clause; one clause is the other side. */
public final class EdgePromise1EmptyTest {
    private static final int[] NUMBERS = {0, 1, -1, 23, 24, Integer.MAX_VALUE, Integer.MIN_VALUE};

    public static void main(String[] args) {
        nothingToDrop();
        nothingToLoseOrKeep();
        roomForAllTwentyFour();
        oneClauseAndBack();
        Due.end();
    }

    private static void nothingToDrop() {
        for (int number : NUMBERS) {
            Same.afterRefusal("drop(" + number + ") of a new object", SoftSolver::new, x -> x.drop(number));
        }
    }

    private static void nothingToLoseOrKeep() {
        SoftSolver x = new SoftSolver();
        Due.is("possible()", x.possible(), 1);
        Due.is("loss()", x.loss(), 0);
        Due.is("best()", x.best(), 0);
        Due.is("kept()", x.kept(), 0);
        for (int assignment = 0; assignment < 256; assignment++) {
            int clause = Made.allBut(assignment);
            Due.is("lossAgainst(all but " + assignment + ")", x.lossAgainst(clause), 0);
        }
        for (int literal = 0; literal < 16; literal++) {
            Due.is("lossWith(" + literal + ")", x.lossWith(literal), 0);
        }
    }

    private static void roomForAllTwentyFour() {
        SoftSolver hard = new SoftSolver();
        SoftSolver soft = new SoftSolver();
        for (int i = 1; i <= 24; i++) {
            Due.is("hard(65535), time " + i, hard.hard(65535), i);
            Due.is("soft(65535, 1), time " + i, soft.soft(65535, 1), i);
        }
        Due.is("hard(65535), time 25", hard.hard(65535), -1);
        Due.is("soft(65535, 1), time 25", soft.soft(65535, 1), -1);
    }

    private static void oneClauseAndBack() {
        SoftSolver x = new SoftSolver();
        x.soft(0, 8);
        Due.is("loss() of one clause", x.loss(), 8);
        Due.is("drop(0) of one clause", x.drop(0), 0);
        Due.is("loss() without it", x.loss(), 0);
        Same.answers("after hard(0) and drop(0)", EdgePromise1EmptyTest::emptiedAgain, SoftSolver::new);
    }

    private static SoftSolver emptiedAgain() {
        SoftSolver x = new SoftSolver();
        x.hard(0);
        x.drop(0);
        return x;
    }
}
