/** "It is ALLOWED if all hard clauses hold." */
public final class TermsAllowedTest {
    public static void main(String[] args) {
        oneThatFailsIsEnough();
        eachOfTwentyFourForbidsItsOwn();
        softOnesForbidNothing();
        everyAssignmentOfAMixedRow();
        Due.end();
    }

    /** At every place of every row, among clauses that hold for all. */
    private static void oneThatFailsIsEnough() {
        for (int count = 1; count <= 24; count++) {
            for (int place = 0; place < count; place++) {
                int forbidden = (37 * count + 11 * place) % 256;
                SoftSolver x = new SoftSolver();
                for (int i = 0; i < count; i++) {
                    x.hard(i == place ? Made.allBut(forbidden) : 3 << 2 * (i % 8));
                }
                String where = " with number " + place + " of " + count + " against " + forbidden;
                Due.is("the loss of " + forbidden + where, Made.lossOf(x, forbidden), -1);
                for (int v = 0; v < 8; v++) {
                    int other = forbidden ^ 1 << v;
                    Due.is("the loss of " + other + where, Made.lossOf(x, other), 0);
                }
                x.drop(place);
                Due.is("the loss of " + forbidden + " without it", Made.lossOf(x, forbidden), 0);
            }
        }
    }

    private static void eachOfTwentyFourForbidsItsOwn() {
        SoftSolver x = new SoftSolver();
        for (int i = 0; i < 24; i++) {
            x.hard(Made.allBut(11 * i));
        }
        for (int assignment = 0; assignment < 256; assignment++) {
            boolean forbidden = assignment % 11 == 0 && assignment < 11 * 24;
            Due.is("the loss of " + assignment, Made.lossOf(x, assignment), forbidden ? -1 : 0);
        }
    }

    private static void softOnesForbidNothing() {
        for (int assignment = 0; assignment < 256; assignment++) {
            SoftSolver x = new SoftSolver();
            x.soft(Made.allBut(assignment), 50);
            x.hard(3);
            Due.is("the loss of " + assignment + " with a soft one against it", Made.lossOf(x, assignment), 50);
            x.hard(Made.allBut(assignment));
            Due.is("the loss of " + assignment + " with a hard one against it", Made.lossOf(x, assignment), -1);
        }
    }

    private static void everyAssignmentOfAMixedRow() {
        int[] hard = {1 + 8, 4 + 32, 2 + 16 + 512, 64 + 128 + 1024, 32768 + 256};
        SoftSolver x = new SoftSolver();
        for (int clause : hard) {
            x.soft(0, 3);
            x.hard(clause);
        }
        for (int assignment = 0; assignment < 256; assignment++) {
            boolean allowed = true;
            for (int clause : hard) {
                allowed = allowed && Made.holds(clause, assignment);
            }
            Due.is("the loss of " + assignment, Made.lossOf(x, assignment), allowed ? 15 : -1);
        }
    }
}
