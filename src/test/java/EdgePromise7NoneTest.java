/** Promise 7: best answers the best assignment, "-1 if none is allowed". */
public final class EdgePromise7NoneTest {
    public static void main(String[] args) {
        noughtIsNotNone();
        oneAllowedOrNone();
        whateverTheWeights();
        Due.end();
    }

    private static void noughtIsNotNone() {
        SoftSolver x = new SoftSolver();
        x.hard(2);
        Due.is("best() with variable 0 false", x.best(), 0);
        x.hard(1);
        Due.is("best() with none allowed", x.best(), -1);
        x.drop(0);
        Due.is("best() with variable 0 true", x.best(), 1);
    }

    private static void oneAllowedOrNone() {
        for (int assignment = 0; assignment < 256; assignment++) {
            SoftSolver x = Made.onlyAllowed(assignment);
            Due.is("best() with only " + assignment, x.best(), assignment);
            x.hard(Made.allBut(assignment));
            Due.is("best() with none allowed", x.best(), -1);
            x.drop(8);
            Due.is("best() with it allowed again", x.best(), assignment);
        }
    }

    private static void whateverTheWeights() {
        SoftSolver x = new SoftSolver();
        for (int i = 0; i < 23; i++) {
            x.soft(1 << 14, 50);
        }
        Due.is("best() with soft ones alone", x.best(), 128);
        x.hard(0);
        Due.is("best() with none allowed", x.best(), -1);
        x.drop(23);
        x.hard(1 << 15);
        Due.is("best() with variable 7 false", x.best(), 0);
    }
}
