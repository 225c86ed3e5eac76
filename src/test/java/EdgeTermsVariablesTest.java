/** "VARIABLES are 0 to 7; each is true or false." */
public final class EdgeTermsVariablesTest {
    public static void main(String[] args) {
        firstAndLast();
        eightOfThemAndNoNinth();
        trueOrFalseAndNothingElse();
        Due.end();
    }

    private static void firstAndLast() {
        SoftSolver x = new SoftSolver();
        x.hard(1);
        Due.is("best() with variable 0 true", x.best(), 1);
        SoftSolver y = new SoftSolver();
        y.hard(1 << 14);
        Due.is("best() with variable 7 true", y.best(), 128);
    }

    private static void eightOfThemAndNoNinth() {
        SoftSolver x = new SoftSolver();
        for (int v = 0; v < 8; v++) {
            x.soft(1 << 2 * v, 50);
            Due.is("best() with variables 0 to " + v + " true", x.best(), (2 << v) - 1);
            Due.is("loss()", x.loss(), 0);
        }
        x.soft(1 << 16, 1);
        Due.is("best() with what would be variable 8", x.best(), 255);
        Due.is("loss() with what would be variable 8", x.loss(), 1);
    }

    private static void trueOrFalseAndNothingElse() {
        for (int v = 0; v < 8; v++) {
            SoftSolver either = new SoftSolver();
            either.hard(3 << 2 * v);
            Due.is("possible() with variable " + v + " true or false", either.possible(), 1);
            SoftSolver both = new SoftSolver();
            both.hard(1 << 2 * v);
            both.hard(2 << 2 * v);
            Due.is("possible() with variable " + v + " true and false", both.possible(), 0);
        }
    }
}
