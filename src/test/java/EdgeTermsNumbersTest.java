/** "They are numbered from 0 in the order in which they were added." */
public final class EdgeTermsNumbersTest {
    public static void main(String[] args) {
        fromNought();
        hardAndSoftInOneRow();
        inTheOrderOfAdding();
        refusedOnesHaveNoNumber();
        Due.end();
    }

    private static void fromNought() {
        for (int count = 1; count <= 24; count++) {
            Due.is("drop(-1) of " + count, weighing(count).drop(-1), -1);
            Due.is("drop(" + count + ") of " + count, weighing(count).drop(count), -1);
            for (int number = 0; number < count; number++) {
                SoftSolver x = weighing(count);
                int all = x.loss();
                Due.is("drop(" + number + ") of " + count, x.drop(number), count - 1);
                Due.is("loss() without number " + number, x.loss(), all - 1 - number);
            }
        }
    }

    /** The clause with number i weighs i + 1 and never holds. */
    private static SoftSolver weighing(int count) {
        SoftSolver x = new SoftSolver();
        for (int i = 0; i < count; i++) {
            x.soft(0, i + 1);
        }
        return x;
    }

    private static void hardAndSoftInOneRow() {
        Due.is("possible() after drop(0)", afterDrop(0).possible(), 0);
        Due.is("possible() after drop(1)", afterDrop(1).possible(), 1);
        Due.is("loss() after drop(1)", afterDrop(1).loss(), 9);
        Due.is("possible() after drop(2)", afterDrop(2).possible(), 0);
        Due.is("possible() after drop(3)", afterDrop(3).possible(), 0);
    }

    /** Number 0 is soft, number 1 the one that allows none, number 2 soft, number 3 hard. */
    private static SoftSolver afterDrop(int number) {
        SoftSolver x = new SoftSolver();
        x.soft(0, 4);
        x.hard(0);
        x.soft(0, 5);
        x.hard(1);
        x.drop(number);
        return x;
    }

    /** Equal clauses and clauses with greater bits stay where they were added. */
    private static void inTheOrderOfAdding() {
        SoftSolver x = new SoftSolver();
        x.soft(32768, 50);
        x.soft(1, 1);
        x.soft(32768, 7);
        x.hard(1 << 14);
        Due.is("loss()", x.loss(), 57);
        Due.is("drop(0)", x.drop(0), 3);
        Due.is("loss()", x.loss(), 7);
        Due.is("drop(1)", x.drop(1), 2);
        Due.is("loss()", x.loss(), 0);
        Due.is("kept()", x.kept(), 1);
    }

    private static void refusedOnesHaveNoNumber() {
        SoftSolver x = new SoftSolver();
        x.soft(0, 1);
        x.soft(0, 51);
        x.soft(0, 2);
        x.soft(0, 0);
        x.soft(0, 4);
        Due.is("drop(3)", x.drop(3), -1);
        Due.is("drop(1)", x.drop(1), 2);
        Due.is("loss()", x.loss(), 5);
    }
}
