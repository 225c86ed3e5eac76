/** Promise 9: lossAgainst answers "-1 if there is none": the clause holds for all that is allowed. */
public final class EdgePromise9NoneTest {
    public static void main(String[] args) {
        bothLiteralsOfAVariable();
        oneAllowed();
        followsFromHardOnes();
        noneAllowed();
        Due.end();
    }

    private static void bothLiteralsOfAVariable() {
        SoftSolver x = new SoftSolver();
        for (int v = 0; v < 8; v++) {
            Due.is("lossAgainst(variable " + v + " true)", x.lossAgainst(1 << 2 * v), 0);
            Due.is("lossAgainst(variable " + v + " false)", x.lossAgainst(2 << 2 * v), 0);
            Due.is("lossAgainst(variable " + v + " either)", x.lossAgainst(3 << 2 * v), -1);
        }
        Due.is("lossAgainst(0)", x.lossAgainst(0), 0);
        Due.is("lossAgainst(65535)", x.lossAgainst(65535), -1);
    }

    private static void oneAllowed() {
        for (int assignment = 0; assignment < 256; assignment++) {
            SoftSolver x = Made.onlyAllowed(assignment);
            x.soft(0, 4);
            int none = Made.allBut(assignment);
            Due.is("lossAgainst(no literal that is so)", x.lossAgainst(none), 4);
            Due.is("lossAgainst(0)", x.lossAgainst(0), 4);
            for (int v = 0; v < 8; v++) {
                int clause = none | 1 << Made.literalOf(v, assignment);
                Due.is("lossAgainst(one that is so more)", x.lossAgainst(clause), -1);
            }
        }
    }

    /** 0 or 1, and 0 or not 1: so 0; a soft clause that says the same leaves the other side open. */
    private static void followsFromHardOnes() {
        SoftSolver x = new SoftSolver();
        x.hard(1 + 4);
        Due.is("lossAgainst(1)", x.lossAgainst(1), 0);
        x.soft(1 + 8, 6);
        Due.is("lossAgainst(1)", x.lossAgainst(1), 6);
        x.hard(1 + 8);
        Due.is("lossAgainst(1)", x.lossAgainst(1), -1);
        Due.is("lossAgainst(2)", x.lossAgainst(2), 0);
        x.drop(0);
        Due.is("lossAgainst(1)", x.lossAgainst(1), 0);
    }

    private static void noneAllowed() {
        SoftSolver x = Made.impossible(22);
        for (int literal = 0; literal < 16; literal++) {
            Due.is("lossAgainst(1 << " + literal + ")", x.lossAgainst(1 << literal), -1);
        }
        Due.is("lossAgainst(0)", x.lossAgainst(0), -1);
        Due.is("lossAgainst(65535)", x.lossAgainst(65535), -1);
        Due.is("lossAgainst(65536)", x.lossAgainst(65536), -1);
        x.drop(0);
        Due.is("lossAgainst(0) with variable 0 false", x.lossAgainst(0), x.loss());
        Due.is("lossAgainst(2) with variable 0 false", x.lossAgainst(2), -1);
    }
}
