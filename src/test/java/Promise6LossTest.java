public final class Promise6LossTest {
    public static void main(String[] args) {
        onlyAllowedAssignmentsCount();
        leastNotFirst();
        hardClausesCostNothing();
        noneAllowed();
        Due.end();
    }

    private static void onlyAllowedAssignmentsCount() {
        SoftSolver x = new SoftSolver();
        x.soft(2, 11);
        Due.is("loss()", x.loss(), 0);
        x.hard(1);
        Due.is("loss()", x.loss(), 11);
        x.soft(8, 20);
        Due.is("loss()", x.loss(), 11);
        x.hard(2 + 4);
        Due.is("loss()", x.loss(), 31);
    }

    private static void leastNotFirst() {
        SoftSolver x = new SoftSolver();
        for (int v = 0; v < 8; v++) {
            x.soft(1 << (2 * v), v + 2);
            x.soft(1 << (2 * v + 1), v + 1);
        }
        Due.is("loss()", x.loss(), 36);
        Due.is("best()", x.best(), 255);
    }

    private static void hardClausesCostNothing() {
        SoftSolver x = new SoftSolver();
        x.hard(1);
        x.hard(8);
        x.hard(16 + 32);
        Due.is("loss()", x.loss(), 0);
    }

    private static void noneAllowed() {
        SoftSolver x = new SoftSolver();
        x.soft(1, 5);
        x.hard(1);
        x.hard(2);
        Due.is("loss()", x.loss(), -1);
        x.drop(2);
        Due.is("loss()", x.loss(), 0);
    }
}
