/** "Its LOSS is the sum of the weights of the soft clauses that don't hold." */
public final class TermsLossTest {
    private static final int ROWS = 40;

    public static void main(String[] args) {
        for (int row = 0; row < ROWS; row++) {
            everyAssignmentOf(row);
        }
        oneAtEachPlace();
        equalClausesCountEach();
        Due.end();
    }

    private static int clauseOf(int row, int i) {
        int first = (5 * i + row) % 16;
        int second = (3 * i + 7 * row) % 16;
        int third = (11 * i + 2 * row + 1) % 16;
        int[] clauses = {1 << first, 1 << first | 1 << second, 1 << first | 1 << second | 1 << third};
        return clauses[i % 3];
    }

    private static int weightOf(int row, int i) {
        return 1 + (13 * i + 29 * row) % 50;
    }

    /** Every sixth clause is a hard one that always holds, and adds nothing. */
    private static void everyAssignmentOf(int row) {
        SoftSolver x = new SoftSolver();
        int count = 1 + row % 24;
        for (int i = 0; i < count; i++) {
            if (i % 6 == 5) {
                x.hard(3 << 2 * (i % 8));
            } else {
                x.soft(clauseOf(row, i), weightOf(row, i));
            }
        }
        int least = 24 * 50;
        for (int assignment = 0; assignment < 256; assignment++) {
            int sum = 0;
            for (int i = 0; i < count; i++) {
                if (i % 6 != 5 && !Made.holds(clauseOf(row, i), assignment)) {
                    sum += weightOf(row, i);
                }
            }
            least = Math.min(least, sum);
            Due.is("row " + row + ": the loss of " + assignment, Made.lossOf(x, assignment), sum);
        }
        Due.is("row " + row + ": loss()", x.loss(), least);
    }

    /** The one clause that fails is the first, the last and any between. */
    private static void oneAtEachPlace() {
        for (int count = 1; count <= 24; count++) {
            for (int place = 0; place < count; place++) {
                SoftSolver x = new SoftSolver();
                for (int i = 0; i < count; i++) {
                    x.soft(i == place ? 0 : 65535, 1 + i);
                }
                Due.is("loss() with number " + place + " of " + count + " failing", x.loss(), 1 + place);
                Due.is("kept()", x.kept(), count - 1);
            }
        }
    }

    private static void equalClausesCountEach() {
        SoftSolver x = new SoftSolver();
        x.soft(1, 4);
        x.soft(1, 4);
        x.soft(1, 9);
        Due.is("the loss of 0", Made.lossOf(x, 0), 17);
        Due.is("the loss of 1", Made.lossOf(x, 1), 0);
        Due.is("lossWith(1)", x.lossWith(1), 17);
    }
}
