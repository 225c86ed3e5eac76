public final class Promise5PossibleTest {
    public static void main(String[] args) {
        softClausesNeverForbid();
        emptyHardClause();
        contradiction();
        oneAssignmentLeft();
        askingChangesNothing();
        Due.end();
    }

    private static void softClausesNeverForbid() {
        SoftSolver x = new SoftSolver();
        x.soft(0, 50);
        x.soft(1, 50);
        x.soft(2, 50);
        Due.is("possible()", x.possible(), 1);
    }

    private static void emptyHardClause() {
        SoftSolver x = new SoftSolver();
        x.hard(0);
        Due.is("possible()", x.possible(), 0);
        x.drop(0);
        Due.is("possible()", x.possible(), 1);
    }

    private static void contradiction() {
        SoftSolver x = new SoftSolver();
        x.hard(1 + 4);
        x.hard(1 + 8);
        x.hard(2 + 4);
        Due.is("possible()", x.possible(), 1);
        x.hard(2 + 8);
        Due.is("possible()", x.possible(), 0);
        x.drop(1);
        Due.is("possible()", x.possible(), 1);
    }

    private static void oneAssignmentLeft() {
        for (int assignment = 0; assignment < 256; assignment++) {
            SoftSolver x = new SoftSolver();
            for (int v = 0; v < 8; v++) {
                x.hard(1 << (2 * v + 1 - ((assignment >> v) & 1)));
            }
            Due.is("possible() with only " + assignment, x.possible(), 1);
            Due.is("best() with only " + assignment, x.best(), assignment);
        }
    }

    private static void askingChangesNothing() {
        SoftSolver x = new SoftSolver();
        x.hard(0);
        Due.is("possible()", x.possible(), 0);
        Due.is("possible() again", x.possible(), 0);
        Due.is("hard(1)", x.hard(1), 2);
    }
}
