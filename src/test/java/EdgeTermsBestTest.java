/** "The BEST assignment is, of the allowed ones with the least loss, the least number." */
public final class EdgeTermsBestTest {
    public static void main(String[] args) {
        leastOfEqualPairs();
        oneWeightMoreOrLess();
        leastNumberMayBeForbidden();
        fromTheFirstToTheLast();
        Due.end();
    }

    private static void leastOfEqualPairs() {
        for (int low = 0; low < 256; low += 5) {
            for (int high = low + 1; high < 256; high += 7) {
                String pair = low + " and " + high;
                SoftSolver x = onlyAllowed(low, high);
                Due.is("best() of " + pair, x.best(), low);
                int number = x.soft(0, 50) - 1;
                Due.is("best() of " + pair + " with equal losses", x.best(), low);
                x.drop(number);
                x.soft(Made.allBut(low), 1);
                Due.is("best() of " + pair + " if the less number loses more", x.best(), high);
                x.soft(Made.allBut(high), 1);
                Due.is("best() of " + pair + " if both lose 1", x.best(), low);
            }
        }
    }

    /** The variables in which the two differ are bound to one another, the others to their values. */
    private static SoftSolver onlyAllowed(int low, int high) {
        SoftSolver x = new SoftSolver();
        int earlier = -1;
        for (int v = 0; v < 8; v++) {
            int literal = Made.literalOf(v, low);
            if (literal == Made.literalOf(v, high)) {
                x.hard(1 << literal);
            } else {
                if (earlier != -1) {
                    x.hard(1 << literal | 1 << (earlier ^ 1));
                    x.hard(1 << (literal ^ 1) | 1 << earlier);
                }
                earlier = literal;
            }
        }
        return x;
    }

    private static void oneWeightMoreOrLess() {
        for (int v = 0; v < 8; v++) {
            Due.is("best() with equal weights", pulled(v, 25, 25).best(), 0);
            Due.is("best() with one more for true", pulled(v, 26, 25).best(), 1 << v);
            Due.is("best() with one less for true", pulled(v, 24, 25).best(), 0);
            Due.is("loss() with equal weights", pulled(v, 25, 25).loss(), 25);
            Due.is("loss() with one more for true", pulled(v, 26, 25).loss(), 25);
            Due.is("loss() with one less for true", pulled(v, 24, 25).loss(), 24);
        }
    }

    private static SoftSolver pulled(int variable, int toTrue, int toFalse) {
        SoftSolver x = new SoftSolver();
        x.soft(1 << 2 * variable, toTrue);
        x.soft(2 << 2 * variable, toFalse);
        return x;
    }

    /** Forbidding the best one by one tells the numbers in their order. */
    private static void leastNumberMayBeForbidden() {
        SoftSolver x = new SoftSolver();
        for (int assignment = 0; assignment < 24; assignment++) {
            Due.is("best() when all below " + assignment + " are forbidden", x.best(), assignment);
            x.hard(Made.allBut(assignment));
        }
        Due.is("best() when all below 24 are forbidden", x.best(), 24);
        Due.is("loss()", x.loss(), 0);
    }

    private static void fromTheFirstToTheLast() {
        for (int assignment = 0; assignment < 256; assignment++) {
            SoftSolver hard = Made.onlyAllowed(assignment);
            Due.is("best() with only " + assignment + " allowed", hard.best(), assignment);
            SoftSolver soft = new SoftSolver();
            for (int v = 0; v < 8; v++) {
                soft.soft(1 << Made.literalOf(v, assignment), 1 + v);
            }
            Due.is("best() with only " + assignment + " losing nothing", soft.best(), assignment);
            soft.hard(Made.allBut(assignment));
            Due.is("best() when it is forbidden", soft.best(), assignment ^ 1);
            Due.is("loss() when it is forbidden", soft.loss(), 1);
        }
    }
}
