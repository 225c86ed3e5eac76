/** Promise 8: lossWith answers "-1 if there is none": no allowed assignment in which the literal is so. */
public final class EdgePromise8NoneTest {
    public static void main(String[] args) {
        literalOrItsOpposite();
        oneAllowed();
        noneAllowed();
        softOnesDoNotForbid();
        Due.end();
    }

    private static void literalOrItsOpposite() {
        for (int literal = 0; literal < 16; literal++) {
            SoftSolver x = new SoftSolver();
            x.hard(1 << literal);
            Due.is("lossWith(" + literal + ") if it is hard", x.lossWith(literal), 0);
            Due.is("lossWith(" + (literal ^ 1) + "), its opposite", x.lossWith(literal ^ 1), -1);
            Due.is("possible()", x.possible(), 1);
            x.drop(0);
            Due.is("lossWith(" + (literal ^ 1) + ") afterwards", x.lossWith(literal ^ 1), 0);
        }
    }

    private static void oneAllowed() {
        for (int assignment = 0; assignment < 256; assignment++) {
            SoftSolver x = Made.onlyAllowed(assignment);
            x.soft(0, 3);
            for (int v = 0; v < 8; v++) {
                int so = Made.literalOf(v, assignment);
                Due.is("lossWith(" + so + ") with only " + assignment, x.lossWith(so), 3);
                Due.is("lossWith(" + (so ^ 1) + ") with only " + assignment, x.lossWith(so ^ 1), -1);
            }
        }
    }

    private static void noneAllowed() {
        SoftSolver x = Made.impossible(22);
        for (int literal = -20; literal < 40; literal++) {
            Due.is("lossWith(" + literal + ") with none allowed", x.lossWith(literal), -1);
        }
        x.drop(1);
        Due.is("possible() with variable 0 true", x.possible(), 1);
        Due.is("lossWith(1)", x.lossWith(1), -1);
        Due.is("lossWith(0)", x.lossWith(0), x.loss());
    }

    private static void softOnesDoNotForbid() {
        for (int literal = 0; literal < 16; literal++) {
            SoftSolver x = new SoftSolver();
            x.soft(1 << literal, 50);
            Due.is("lossWith(" + (literal ^ 1) + ")", x.lossWith(literal ^ 1), 50);
            Due.is("lossWith(" + literal + ")", x.lossWith(literal), 0);
        }
    }
}
