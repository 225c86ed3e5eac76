/** "The empty clause never holds." A clause of one literal, its neighbour, holds for some. */
public final class EdgeTermsEmptyClauseTest {
    public static void main(String[] args) {
        asAHardOne();
        asASoftOne();
        asAQuestion();
        Due.end();
    }

    private static void asAHardOne() {
        for (int assignment = 0; assignment < 256; assignment++) {
            SoftSolver x = Made.onlyAllowed(assignment);
            Due.is("possible() with only " + assignment, x.possible(), 1);
            x.hard(0);
            Due.is("possible() with only " + assignment + " and hard(0)", x.possible(), 0);
        }
        for (int literal = 0; literal < 16; literal++) {
            SoftSolver x = new SoftSolver();
            x.hard(1 << literal);
            Due.is("possible() with hard(1 << " + literal + ")", x.possible(), 1);
        }
    }

    private static void asASoftOne() {
        for (int assignment = 0; assignment < 256; assignment++) {
            SoftSolver x = Made.onlyAllowed(assignment);
            x.soft(0, 13);
            Due.is("loss() with only " + assignment + " and soft(0, 13)", x.loss(), 13);
            Due.is("kept()", x.kept(), 0);
            x.soft(1 << Made.literalOf(3, assignment), 13);
            Due.is("loss() with a literal that is so", x.loss(), 13);
            Due.is("kept()", x.kept(), 1);
        }
    }

    private static void asAQuestion() {
        for (int assignment = 0; assignment < 256; assignment++) {
            SoftSolver x = Made.onlyAllowed(assignment);
            Due.is("lossAgainst(0) with only " + assignment, x.lossAgainst(0), 0);
            int so = 1 << Made.literalOf(5, assignment);
            Due.is("lossAgainst(" + so + ") with only " + assignment, x.lossAgainst(so), -1);
        }
    }
}
