/** "It HOLDS for an assignment if at least one of its literals is so": every clause there is. */
public final class TermsHoldsTest {
    /** Opposites of one another, so that each literal is so in exactly one of the two. */
    private static final int[] ASSIGNMENTS = {0b10110001, 0b01001110};

    public static void main(String[] args) {
        for (int clause = 0; clause <= 65535; clause++) {
            for (int assignment : ASSIGNMENTS) {
                heldInEachWay(clause, assignment, Made.holds(clause, assignment));
            }
        }
        everyAssignment();
        Due.end();
    }

    private static void heldInEachWay(int clause, int assignment, boolean holds) {
        String where = " with only " + assignment + " and the clause " + clause;
        SoftSolver x = Made.onlyAllowed(assignment);
        Due.is("lossAgainst()" + where, x.lossAgainst(clause), holds ? -1 : 0);
        x.soft(clause, 7);
        Due.is("loss()" + where + " soft", x.loss(), holds ? 0 : 7);
        Due.is("kept()" + where + " soft", x.kept(), holds ? 1 : 0);
        x.hard(clause);
        Due.is("possible()" + where + " hard", x.possible(), holds ? 1 : 0);
    }

    /** No, one, some and all of the literals that are so, beside some that are not. */
    private static void everyAssignment() {
        for (int assignment = 0; assignment < 256; assignment++) {
            int so = Made.allBut(assignment ^ 255);
            int notSo = Made.allBut(assignment);
            heldInEachWay(notSo, assignment, false);
            heldInEachWay(notSo & 0b0011_1100_0011_1100, assignment, false);
            heldInEachWay(so, assignment, true);
            heldInEachWay(so & 0b0011_1100_0011_1100, assignment, true);
            for (int v = 0; v < 8; v++) {
                heldInEachWay(1 << Made.literalOf(v, assignment), assignment, true);
                heldInEachWay(notSo | 1 << Made.literalOf(v, assignment), assignment, true);
                heldInEachWay(1 << Made.literalOf(v, assignment ^ 255), assignment, false);
            }
        }
    }
}
