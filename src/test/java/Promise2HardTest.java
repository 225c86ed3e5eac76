public final class Promise2HardTest {
    public static void main(String[] args) {
        everyLiteralBinds();
        anyLiteralIsEnough();
        sameClauseCountsTwice();
        emptyClauseForbidsAll();
        onlySixteenBitsCount();
        twentyFourAreHeld();
        Due.end();
    }

    private static void everyLiteralBinds() {
        for (int v = 0; v < 8; v++) {
            SoftSolver x = new SoftSolver();
            Due.is("hard(variable " + v + " is true)", x.hard(1 << (2 * v)), 1);
            Due.is("best()", x.best(), 1 << v);
            Due.is("lossWith(it is false)", x.lossWith(2 * v + 1), -1);
            Due.is("hard(variable " + v + " is false)", x.hard(1 << (2 * v + 1)), 2);
            Due.is("possible()", x.possible(), 0);
        }
    }

    private static void anyLiteralIsEnough() {
        SoftSolver x = new SoftSolver();
        Due.is("hard(0 or 1 or 2 true)", x.hard(1 + 4 + 16), 1);
        Due.is("best()", x.best(), 1);
        Due.is("hard(0 false)", x.hard(2), 2);
        Due.is("best()", x.best(), 2);
        Due.is("hard(1 false)", x.hard(8), 3);
        Due.is("best()", x.best(), 4);
        Due.is("loss()", x.loss(), 0);
        Due.is("kept()", x.kept(), 0);
    }

    private static void sameClauseCountsTwice() {
        SoftSolver x = new SoftSolver();
        Due.is("hard(4)", x.hard(4), 1);
        Due.is("hard(4) again", x.hard(4), 2);
        Due.is("drop(0)", x.drop(0), 1);
        Due.is("best()", x.best(), 2);
    }

    private static void emptyClauseForbidsAll() {
        SoftSolver x = new SoftSolver();
        Due.is("hard(0)", x.hard(0), 1);
        Due.is("possible()", x.possible(), 0);
    }

    private static void onlySixteenBitsCount() {
        SoftSolver x = new SoftSolver();
        Due.is("hard(-1)", x.hard(-1), 1);
        Due.is("best()", x.best(), 0);
        Due.is("hard(65536 + 4)", x.hard(65536 + 4), 2);
        Due.is("best()", x.best(), 2);
        Due.is("hard(MIN_VALUE + 32768)", x.hard(Integer.MIN_VALUE + 32768), 3);
        Due.is("best()", x.best(), 2);
        Due.is("hard(65536)", x.hard(65536), 4);
        Due.is("possible()", x.possible(), 0);
    }

    private static void twentyFourAreHeld() {
        SoftSolver x = new SoftSolver();
        for (int i = 1; i <= 24; i++) {
            Due.is("hard(3), time " + i, x.hard(3), i);
        }
        Due.is("hard(0) when full", x.hard(0), -1);
        Due.is("hard(1) when full", x.hard(1), -1);
        Due.is("possible()", x.possible(), 1);
        Due.is("best()", x.best(), 0);
        Due.is("drop(23)", x.drop(23), 23);
        Due.is("hard(1)", x.hard(1), 24);
        Due.is("best()", x.best(), 1);
    }
}
