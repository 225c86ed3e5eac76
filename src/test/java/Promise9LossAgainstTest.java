public final class Promise9LossAgainstTest {
    public static void main(String[] args) {
        emptyClauseLeavesAll();
        alwaysHolding();
        heldOrNot();
        everyLiteralMustFail();
        onlySixteenBitsCount();
        noneAllowed();
        Due.end();
    }

    private static void emptyClauseLeavesAll() {
        SoftSolver x = new SoftSolver();
        x.soft(1, 5);
        x.soft(2, 4);
        Due.is("lossAgainst(0)", x.lossAgainst(0), 4);
        Due.is("lossAgainst(65536)", x.lossAgainst(65536), 4);
    }

    private static void alwaysHolding() {
        SoftSolver x = new SoftSolver();
        for (int v = 0; v < 8; v++) {
            int both = 3 << (2 * v);
            Due.is("lossAgainst(" + both + ")", x.lossAgainst(both), -1);
        }
        Due.is("lossAgainst(65535)", x.lossAgainst(65535), -1);
        Due.is("lossAgainst(21845)", x.lossAgainst(21845), 0);
        Due.is("lossAgainst(43690)", x.lossAgainst(43690), 0);
    }

    private static void heldOrNot() {
        SoftSolver x = new SoftSolver();
        x.hard(1 + 4);
        x.soft(16, 6);
        x.soft(1, 2);
        Due.is("lossAgainst(a hard one)", x.lossAgainst(5), -1);
        Due.is("lossAgainst(a soft one)", x.lossAgainst(16), 6);
        Due.is("lossAgainst(one not held)", x.lossAgainst(4), 0);
        Due.is("lossAgainst(1 + 16)", x.lossAgainst(17), 8);
        Due.is("lossAgainst(1 + 4 + 16)", x.lossAgainst(21), -1);
        Due.is("loss() afterwards", x.loss(), 0);
        Due.is("hard(3) afterwards", x.hard(3), 4);
    }

    private static void everyLiteralMustFail() {
        SoftSolver x = new SoftSolver();
        for (int v = 0; v < 8; v++) {
            x.soft(1 << (2 * v), v + 1);
        }
        Due.is("lossAgainst(all true)", x.lossAgainst(21845), 36);
        Due.is("lossAgainst(all false)", x.lossAgainst(43690), 0);
        Due.is("lossAgainst(0 and 7 true)", x.lossAgainst(1 + 16384), 9);
        Due.is("lossAgainst(7 true, 0 false)", x.lossAgainst(2 + 16384), 8);
    }

    private static void onlySixteenBitsCount() {
        SoftSolver x = new SoftSolver();
        x.soft(1, 5);
        Due.is("lossAgainst(65537)", x.lossAgainst(65537), 5);
        Due.is("lossAgainst(65538)", x.lossAgainst(65538), 0);
        Due.is("lossAgainst(MIN_VALUE)", x.lossAgainst(Integer.MIN_VALUE), 0);
        Due.is("lossAgainst(-65536 + 1)", x.lossAgainst(-65535), 5);
        Due.is("lossAgainst(-1)", x.lossAgainst(-1), -1);
        Due.is("lossAgainst(MAX_VALUE)", x.lossAgainst(Integer.MAX_VALUE), -1);
    }

    private static void noneAllowed() {
        SoftSolver x = new SoftSolver();
        x.hard(0);
        Due.is("lossAgainst(0)", x.lossAgainst(0), -1);
        Due.is("lossAgainst(1)", x.lossAgainst(1), -1);
        Due.is("lossAgainst(65535)", x.lossAgainst(65535), -1);
    }
}
