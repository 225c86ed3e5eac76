/** Promise 6: loss answers the least loss of an allowed assignment, "-1 if none is allowed". */
public final class EdgePromise6NoneTest {
    public static void main(String[] args) {
        nothingLostIsNotNone();
        oneAllowedOrNone();
        softOnesAloneNeverLeaveNone();
        leastThenNextThenNone();
        Due.end();
    }

    private static void nothingLostIsNotNone() {
        SoftSolver x = new SoftSolver();
        x.hard(1);
        Due.is("loss() with one hard clause", x.loss(), 0);
        x.hard(2);
        Due.is("loss() with none allowed", x.loss(), -1);
        x.drop(1);
        Due.is("loss() with the second dropped", x.loss(), 0);
    }

    /** The only one that is allowed is also the only one that loses anything. */
    private static void oneAllowedOrNone() {
        for (int assignment = 0; assignment < 256; assignment++) {
            SoftSolver x = Made.onlyAllowed(assignment);
            for (int i = 0; i < 15; i++) {
                x.soft(Made.allBut(assignment), 50);
            }
            Due.is("loss() with only " + assignment, x.loss(), 750);
            x.hard(Made.allBut(assignment));
            Due.is("loss() with none allowed", x.loss(), -1);
            x.drop(23);
            Due.is("loss() with it allowed again", x.loss(), 750);
        }
    }

    private static void softOnesAloneNeverLeaveNone() {
        SoftSolver x = new SoftSolver();
        for (int i = 1; i <= 24; i++) {
            x.soft(0, 50);
            Due.is("loss() with " + i + " that never hold", x.loss(), 50 * i);
        }
        x.drop(0);
        x.hard(0);
        Due.is("loss() with none allowed", x.loss(), -1);
    }

    /** Two variables cost 3 and 4 when true; forbidding the cheapest each time ends with none. */
    private static void leastThenNextThenNone() {
        SoftSolver x = new SoftSolver();
        x.soft(2, 3);
        x.soft(8, 4);
        int[] want = {0, 3, 4, 7, -1};
        for (int values = 0; values < 4; values++) {
            Due.is("loss() with " + values + " forbidden", x.loss(), want[values]);
            x.hard(Made.allBut(values) & 15);
        }
        Due.is("loss() with all four forbidden", x.loss(), want[4]);
    }
}
