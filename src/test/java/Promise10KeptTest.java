public final class Promise10KeptTest {
    public static void main(String[] args) {
        softOnesAlone();
        ofTheBestAssignment();
        ofTheLeastOfEqualOnes();
        allHold();
        noneAllowed();
        Due.end();
    }

    private static void softOnesAlone() {
        SoftSolver x = new SoftSolver();
        x.hard(1);
        x.hard(1 + 4);
        Due.is("kept()", x.kept(), 0);
        x.soft(1, 1);
        Due.is("kept()", x.kept(), 1);
        x.soft(2, 50);
        x.soft(0, 50);
        Due.is("kept()", x.kept(), 1);
    }

    /** One heavy clause outweighs three light ones, so the best keeps fewer. */
    private static void ofTheBestAssignment() {
        SoftSolver x = new SoftSolver();
        x.soft(1, 10);
        x.soft(2, 3);
        x.soft(2, 3);
        x.soft(2, 3);
        Due.is("kept()", x.kept(), 1);
        Due.is("best()", x.best(), 1);
        x.soft(2, 2);
        Due.is("kept()", x.kept(), 4);
    }

    private static void ofTheLeastOfEqualOnes() {
        SoftSolver x = new SoftSolver();
        x.soft(2, 6);
        x.soft(1, 3);
        x.soft(1, 3);
        Due.is("kept()", x.kept(), 1);
        x.hard(1);
        Due.is("kept()", x.kept(), 2);
    }

    private static void allHold() {
        SoftSolver x = new SoftSolver();
        for (int i = 0; i < 24; i++) {
            x.soft(3, 50);
        }
        Due.is("kept()", x.kept(), 24);
    }

    private static void noneAllowed() {
        SoftSolver x = new SoftSolver();
        x.soft(1, 5);
        x.hard(0);
        Due.is("kept()", x.kept(), -1);
        x.drop(1);
        Due.is("kept()", x.kept(), 1);
    }
}
