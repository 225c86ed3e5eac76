public final class Promise7BestTest {
    public static void main(String[] args) {
        leastNumberOfEqualLosses();
        lessLossBeatsLessNumber();
        greatestAssignment();
        forbiddenIsNeverBest();
        noneAllowed();
        Due.end();
    }

    private static void leastNumberOfEqualLosses() {
        SoftSolver x = new SoftSolver();
        x.soft(1 + 4 + 64, 8);
        Due.is("best()", x.best(), 1);
        x.hard(2);
        Due.is("best()", x.best(), 2);
        x.soft(4, 3);
        x.soft(8, 3);
        Due.is("best()", x.best(), 2);
        x.soft(8, 1);
        Due.is("best()", x.best(), 8);
    }

    private static void lessLossBeatsLessNumber() {
        SoftSolver x = new SoftSolver();
        x.soft(1 << 14, 2);
        x.soft(1, 1);
        x.soft(2 + (1 << 15), 2);
        Due.is("best()", x.best(), 128);
        Due.is("loss()", x.loss(), 1);
    }

    private static void greatestAssignment() {
        SoftSolver x = new SoftSolver();
        for (int v = 0; v < 8; v++) {
            x.soft(1 << (2 * v), 1);
        }
        Due.is("best()", x.best(), 255);
        Due.is("loss()", x.loss(), 0);
    }

    private static void forbiddenIsNeverBest() {
        SoftSolver x = new SoftSolver();
        x.soft(1, 50);
        x.hard(2);
        Due.is("best()", x.best(), 0);
        x.hard(4);
        Due.is("best()", x.best(), 2);
    }

    private static void noneAllowed() {
        SoftSolver x = new SoftSolver();
        x.hard(1);
        x.hard(2);
        Due.is("best()", x.best(), -1);
        x.drop(0);
        Due.is("best()", x.best(), 0);
    }
}
