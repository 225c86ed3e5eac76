/** Promise 10: kept answers how many soft clauses hold for the best, "-1 if there is none". */
public final class EdgePromise10NoneTest {
    public static void main(String[] args) {
        noneKeptIsNotNone();
        oneAllowedOrNone();
        fromNoneToAllTwentyFour();
        Due.end();
    }

    private static void noneKeptIsNotNone() {
        SoftSolver x = new SoftSolver();
        Due.is("kept() of no clause", x.kept(), 0);
        x.hard(1);
        Due.is("kept() of a hard one", x.kept(), 0);
        x.soft(2, 50);
        Due.is("kept() of a soft one that fails", x.kept(), 0);
        x.hard(2);
        Due.is("kept() with none allowed", x.kept(), -1);
        x.drop(0);
        Due.is("kept() with variable 0 false", x.kept(), 1);
    }

    private static void oneAllowedOrNone() {
        for (int assignment = 0; assignment < 256; assignment++) {
            SoftSolver x = Made.onlyAllowed(assignment);
            for (int v = 0; v < 8; v++) {
                x.soft(1 << 2 * v, 1 + v);
            }
            Due.is("kept() with only " + assignment, x.kept(), Integer.bitCount(assignment));
            x.hard(Made.allBut(assignment));
            Due.is("kept() with none allowed", x.kept(), -1);
            x.drop(16);
            Due.is("kept() with it allowed again", x.kept(), Integer.bitCount(assignment));
        }
    }

    private static void fromNoneToAllTwentyFour() {
        for (int good = 0; good <= 24; good++) {
            SoftSolver x = new SoftSolver();
            for (int i = 0; i < 24; i++) {
                x.soft(i < good ? 3 : 0, 1);
            }
            Due.is("kept() of 24 with " + good + " that hold", x.kept(), good);
            Due.is("loss()", x.loss(), 24 - good);
        }
    }
}
