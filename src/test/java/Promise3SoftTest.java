public final class Promise3SoftTest {
    public static void main(String[] args) {
        weightsAddUp();
        everyLiteralDraws();
        weightsFromOneToFifty();
        wrongWeightsChangeNothing();
        onlySixteenBitsCount();
        twentyFourAreHeld();
        hardAndSoftShareTheRoom();
        Due.end();
    }

    private static void weightsAddUp() {
        SoftSolver x = new SoftSolver();
        Due.is("soft(1, 5)", x.soft(1, 5), 1);
        Due.is("soft(2, 3)", x.soft(2, 3), 2);
        Due.is("loss()", x.loss(), 3);
        Due.is("best()", x.best(), 1);
        Due.is("soft(2, 3) again", x.soft(2, 3), 3);
        Due.is("loss()", x.loss(), 5);
        Due.is("best()", x.best(), 0);
        Due.is("soft(0, 7)", x.soft(0, 7), 4);
        Due.is("loss()", x.loss(), 12);
        Due.is("possible()", x.possible(), 1);
    }

    private static void everyLiteralDraws() {
        for (int v = 0; v < 8; v++) {
            SoftSolver x = new SoftSolver();
            Due.is("soft(variable " + v + " is true)", x.soft(1 << (2 * v), 2), 1);
            Due.is("best()", x.best(), 1 << v);
            Due.is("soft(variable " + v + " is false)", x.soft(1 << (2 * v + 1), 3), 2);
            Due.is("best()", x.best(), 0);
            Due.is("loss()", x.loss(), 2);
        }
    }

    private static void weightsFromOneToFifty() {
        for (int weight = 1; weight <= 50; weight++) {
            SoftSolver x = new SoftSolver();
            Due.is("soft(0, " + weight + ")", x.soft(0, weight), 1);
            Due.is("loss()", x.loss(), weight);
        }
    }

    private static void wrongWeightsChangeNothing() {
        int[] wrong = {0, -1, 51, 52, 100, 257, -50, 65537, Integer.MAX_VALUE, Integer.MIN_VALUE};
        SoftSolver x = new SoftSolver();
        x.soft(4, 9);
        for (int weight : wrong) {
            Due.is("soft(0, " + weight + ")", x.soft(0, weight), -1);
            Due.is("loss()", x.loss(), 0);
            Due.is("best()", x.best(), 2);
            Due.is("possible()", x.possible(), 1);
            Due.is("drop(1)", x.drop(1), -1);
        }
        Due.is("soft(0, 1)", x.soft(0, 1), 2);
    }

    private static void onlySixteenBitsCount() {
        SoftSolver x = new SoftSolver();
        Due.is("soft(65536, 4)", x.soft(65536, 4), 1);
        Due.is("loss()", x.loss(), 4);
        Due.is("soft(-65536, 6)", x.soft(-65536, 6), 2);
        Due.is("loss()", x.loss(), 10);
        Due.is("soft(-1, 6)", x.soft(-1, 6), 3);
        Due.is("loss()", x.loss(), 10);
        Due.is("kept()", x.kept(), 1);
        Due.is("soft(65536 + 16384, 6)", x.soft(65536 + 16384, 6), 4);
        Due.is("best()", x.best(), 128);
    }

    private static void twentyFourAreHeld() {
        SoftSolver x = new SoftSolver();
        for (int i = 1; i <= 24; i++) {
            Due.is("soft(0, 50), time " + i, x.soft(0, 50), i);
        }
        Due.is("loss()", x.loss(), 1200);
        Due.is("soft(0, 1) when full", x.soft(0, 1), -1);
        Due.is("soft(0, 0) when full", x.soft(0, 0), -1);
        Due.is("loss()", x.loss(), 1200);
        Due.is("drop(0)", x.drop(0), 23);
        Due.is("loss()", x.loss(), 1150);
        Due.is("soft(0, 1)", x.soft(0, 1), 24);
        Due.is("loss()", x.loss(), 1151);
    }

    private static void hardAndSoftShareTheRoom() {
        SoftSolver x = new SoftSolver();
        for (int i = 1; i <= 24; i += 2) {
            Due.is("hard(3)", x.hard(3), i);
            Due.is("soft(0, 2)", x.soft(0, 2), i + 1);
        }
        Due.is("soft(0, 2) when full", x.soft(0, 2), -1);
        Due.is("hard(0) when full", x.hard(0), -1);
        Due.is("loss()", x.loss(), 24);
    }
}
