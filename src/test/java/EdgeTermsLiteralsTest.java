/** "A LITERAL is written as 2 * v (variable v is true) or 2 * v + 1 (it is false), 0 to 15." */
public final class EdgeTermsLiteralsTest {
    public static void main(String[] args) {
        inClauses();
        asQuestions();
        Due.end();
    }

    private static void inClauses() {
        for (int literal = 0; literal <= 15; literal++) {
            int variable = literal / 2;
            SoftSolver hard = new SoftSolver();
            hard.soft(1 << (literal ^ 1), 9);
            hard.hard(1 << literal);
            Due.is("best() with hard literal " + literal, hard.best(), literal % 2 == 0 ? 1 << variable : 0);
            Due.is("loss() with hard literal " + literal, hard.loss(), 9);
            SoftSolver soft = new SoftSolver();
            soft.soft(1 << literal, 9);
            Due.is("best() with soft literal " + literal, soft.best(), literal % 2 == 0 ? 1 << variable : 0);
            Due.is("kept() with soft literal " + literal, soft.kept(), 1);
        }
    }

    /** Only the assignment 165 is allowed, so each literal is so or its opposite is. */
    private static void asQuestions() {
        SoftSolver x = Made.onlyAllowed(165);
        for (int literal = 0; literal <= 15; literal++) {
            boolean isTrue = (165 >> literal / 2) % 2 == 1;
            int want = isTrue == (literal % 2 == 0) ? 0 : -1;
            Due.is("lossWith(" + literal + ")", x.lossWith(literal), want);
            Due.is("lossAgainst(" + (1 << literal) + ")", x.lossAgainst(1 << literal), -1 - want);
        }
    }
}
