/** Promise 5: possible answers "1 if some assignment is allowed, else 0". */
public final class EdgePromise5PossibleTest {
    public static void main(String[] args) {
        oneIsEnough();
        oneHardClauseMore();
        softOnesDoNotForbid();
        twentyFourHardOnes();
        Due.end();
    }

    private static void oneIsEnough() {
        for (int assignment = 0; assignment < 256; assignment++) {
            SoftSolver x = Made.onlyAllowed(assignment);
            Due.is("possible() with only " + assignment, x.possible(), 1);
            x.hard(Made.allBut(assignment));
            Due.is("possible() with that one forbidden", x.possible(), 0);
            x.drop(8);
            Due.is("possible() with it allowed again", x.possible(), 1);
            x.hard(Made.allBut(assignment ^ 128));
            Due.is("possible() with another one forbidden", x.possible(), 1);
        }
    }

    private static void oneHardClauseMore() {
        for (int v = 0; v < 8; v++) {
            SoftSolver x = new SoftSolver();
            x.hard(1 << 2 * v);
            Due.is("possible() with variable " + v + " true", x.possible(), 1);
            x.hard(2 << 2 * v);
            Due.is("possible() with variable " + v + " true and false", x.possible(), 0);
            x.drop(0);
            Due.is("possible() with variable " + v + " false", x.possible(), 1);
        }
    }

    /** The same clause, which never holds, as soft ones and as hard ones. */
    private static void softOnesDoNotForbid() {
        SoftSolver soft = new SoftSolver();
        SoftSolver hard = new SoftSolver();
        for (int i = 0; i < 24; i++) {
            soft.soft(0, 50);
            hard.hard(0);
            Due.is("possible() with " + (i + 1) + " soft ones", soft.possible(), 1);
            Due.is("possible() with " + (i + 1) + " hard ones", hard.possible(), 0);
        }
    }

    /** Four variables' sixteen clauses of four literals forbid all; any fifteen of them don't. */
    private static void twentyFourHardOnes() {
        for (int left = 0; left < 16; left++) {
            SoftSolver x = new SoftSolver();
            for (int i = 0; i < 8; i++) {
                x.hard(3 << 2 * i);
            }
            for (int values = 0; values < 16; values++) {
                Due.is("possible() before values " + values, x.possible(), 1);
                x.hard(Made.allBut(values) & 255);
            }
            Due.is("possible() with all sixteen", x.possible(), 0);
            Due.is("drop(" + (8 + left) + ")", x.drop(8 + left), 23);
            Due.is("possible() without values " + left, x.possible(), 1);
            Due.is("best() without values " + left, x.best(), left);
        }
    }
}
