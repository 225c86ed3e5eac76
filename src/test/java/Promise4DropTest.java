public final class Promise4DropTest {
    public static void main(String[] args) {
        firstMiddleAndLast();
        kindsMoveAlong();
        wrongNumbersChangeNothing();
        fullThenEmpty();
        newClauseGoesLast();
        Due.end();
    }

    /** Empty soft clauses of 1, 2, 4, ... let the loss tell which of them are held. */
    private static SoftSolver withPowers() {
        SoftSolver x = new SoftSolver();
        for (int weight = 1; weight <= 32; weight *= 2) {
            x.soft(0, weight);
        }
        return x;
    }

    private static void firstMiddleAndLast() {
        SoftSolver x = withPowers();
        Due.is("drop(0)", x.drop(0), 5);
        Due.is("loss()", x.loss(), 62);
        Due.is("drop(2)", x.drop(2), 4);
        Due.is("loss()", x.loss(), 54);
        Due.is("drop(3)", x.drop(3), 3);
        Due.is("loss()", x.loss(), 22);
        Due.is("drop(1)", x.drop(1), 2);
        Due.is("loss()", x.loss(), 18);
        Due.is("drop(0)", x.drop(0), 1);
        Due.is("loss()", x.loss(), 16);
        Due.is("drop(0)", x.drop(0), 0);
        Due.is("loss()", x.loss(), 0);
        Due.is("drop(0)", x.drop(0), -1);
    }

    private static void kindsMoveAlong() {
        SoftSolver x = new SoftSolver();
        x.soft(0, 7);
        x.hard(1);
        x.soft(2, 9);
        x.hard(0);
        Due.is("possible()", x.possible(), 0);
        Due.is("drop(0)", x.drop(0), 3);
        Due.is("possible()", x.possible(), 0);
        Due.is("drop(2)", x.drop(2), 2);
        Due.is("possible()", x.possible(), 1);
        Due.is("loss()", x.loss(), 9);
        Due.is("best()", x.best(), 1);
        Due.is("drop(0)", x.drop(0), 1);
        Due.is("loss()", x.loss(), 0);
        Due.is("best()", x.best(), 0);
        Due.is("kept()", x.kept(), 1);
    }

    private static void wrongNumbersChangeNothing() {
        int[] wrong = {6, 7, 23, 24, 25, -1, -2, 256, 65536, Integer.MAX_VALUE, Integer.MIN_VALUE};
        SoftSolver x = withPowers();
        for (int number : wrong) {
            Due.is("drop(" + number + ")", x.drop(number), -1);
            Due.is("loss()", x.loss(), 63);
        }
        Due.is("drop(5)", x.drop(5), 5);
        Due.is("drop(5) again", x.drop(5), -1);
        Due.is("loss()", x.loss(), 31);
        Due.is("soft(0, 32)", x.soft(0, 32), 6);
    }

    private static void fullThenEmpty() {
        SoftSolver x = new SoftSolver();
        for (int i = 1; i <= 24; i++) {
            x.soft(0, i);
        }
        Due.is("drop(24) when full", x.drop(24), -1);
        int loss = 300;
        Due.is("loss()", x.loss(), loss);
        for (int i = 1; i <= 24; i++) {
            Due.is("drop(0)", x.drop(0), 24 - i);
            loss -= i;
            Due.is("loss()", x.loss(), loss);
        }
        Due.is("drop(0) when empty", x.drop(0), -1);
        Due.is("possible()", x.possible(), 1);
    }

    private static void newClauseGoesLast() {
        SoftSolver x = withPowers();
        x.drop(0);
        Due.is("soft(0, 1)", x.soft(0, 1), 6);
        Due.is("drop(0)", x.drop(0), 5);
        Due.is("loss()", x.loss(), 61);
        Due.is("drop(4)", x.drop(4), 4);
        Due.is("loss()", x.loss(), 60);
    }
}
