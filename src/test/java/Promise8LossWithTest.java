public final class Promise8LossWithTest {
    public static void main(String[] args) {
        everyLiteral();
        onlyFourBitsCount();
        againstHardClauses();
        noneAllowed();
        Due.end();
    }

    private static SoftSolver withEveryLiteral() {
        SoftSolver x = new SoftSolver();
        for (int literal = 0; literal < 16; literal++) {
            x.soft(1 << literal, literal + 1);
        }
        return x;
    }

    /** A false variable v loses 2v + 1 and a true one 2v + 2, so all false is cheapest, with 64. */
    private static int dueWith(int literal) {
        return literal % 2 == 0 ? 65 : 64;
    }

    private static void everyLiteral() {
        SoftSolver x = withEveryLiteral();
        for (int literal = 0; literal < 16; literal++) {
            Due.is("lossWith(" + literal + ")", x.lossWith(literal), dueWith(literal));
        }
        Due.is("loss() afterwards", x.loss(), 64);
        Due.is("hard(3) afterwards", x.hard(3), 17);
    }

    private static void onlyFourBitsCount() {
        SoftSolver x = new SoftSolver();
        x.soft(1, 5);
        x.soft(1 << 15, 7);
        Due.is("lossWith(0)", x.lossWith(0), 0);
        Due.is("lossWith(1)", x.lossWith(1), 5);
        Due.is("lossWith(16)", x.lossWith(16), 0);
        Due.is("lossWith(17)", x.lossWith(17), 5);
        Due.is("lossWith(14)", x.lossWith(14), 7);
        Due.is("lossWith(30)", x.lossWith(30), 7);
        Due.is("lossWith(-1)", x.lossWith(-1), 0);
        Due.is("lossWith(-2)", x.lossWith(-2), 7);
        Due.is("lossWith(-15)", x.lossWith(-15), 5);
        Due.is("lossWith(MAX_VALUE)", x.lossWith(Integer.MAX_VALUE), 0);
        Due.is("lossWith(MAX_VALUE - 1)", x.lossWith(Integer.MAX_VALUE - 1), 7);
        Due.is("lossWith(MIN_VALUE)", x.lossWith(Integer.MIN_VALUE), 0);
        Due.is("lossWith(MIN_VALUE + 1)", x.lossWith(Integer.MIN_VALUE + 1), 5);
    }

    private static void againstHardClauses() {
        SoftSolver x = new SoftSolver();
        x.hard(1 + 4);
        x.soft(8, 9);
        Due.is("lossWith(0)", x.lossWith(0), 0);
        Due.is("lossWith(1)", x.lossWith(1), 9);
        Due.is("lossWith(2)", x.lossWith(2), 9);
        Due.is("lossWith(3)", x.lossWith(3), 0);
        x.hard(1);
        Due.is("lossWith(1)", x.lossWith(1), -1);
        Due.is("lossWith(0)", x.lossWith(0), 0);
    }

    private static void noneAllowed() {
        SoftSolver x = new SoftSolver();
        x.hard(0);
        for (int literal = 0; literal < 16; literal++) {
            Due.is("lossWith(" + literal + ")", x.lossWith(literal), -1);
        }
    }
}
