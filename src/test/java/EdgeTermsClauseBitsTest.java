/** "Of an argument only the sixteen lowest bits are looked at." */
public final class EdgeTermsClauseBitsTest {
    private static final int[] LOW = {0, 1, 2, 5, 32768, 49152, 65534, 65535};
    private static final int[] HIGH = {1 << 16, 1 << 17, 3 << 30, Integer.MIN_VALUE, 0x7fff0000, 0xffff0000};

    public static void main(String[] args) {
        hardBitByBit();
        softBitByBit();
        againstBitByBit();
        highBitsLeaveAllAnswersAlone();
        Due.end();
    }

    private static void hardBitByBit() {
        for (int bit = 0; bit < 32; bit++) {
            SoftSolver x = new SoftSolver();
            Due.is("hard(1 << " + bit + ")", x.hard(1 << bit), 1);
            Due.is("possible() with hard bit " + bit, x.possible(), bit < 16 ? 1 : 0);
        }
    }

    private static void softBitByBit() {
        for (int bit = 0; bit < 32; bit++) {
            SoftSolver x = new SoftSolver();
            Due.is("soft(1 << " + bit + ", 7)", x.soft(1 << bit, 7), 1);
            Due.is("loss() with soft bit " + bit, x.loss(), bit < 16 ? 0 : 7);
            Due.is("kept() with soft bit " + bit, x.kept(), bit < 16 ? 1 : 0);
        }
    }

    /** To be true costs each variable 1 less than to be false, so all true is cheapest, with 64. */
    private static void againstBitByBit() {
        SoftSolver x = new SoftSolver();
        for (int literal = 0; literal < 16; literal++) {
            x.soft(1 << literal, literal % 2 == 0 ? literal + 2 : literal);
        }
        Due.is("loss()", x.loss(), 64);
        for (int bit = 0; bit < 32; bit++) {
            int want = bit < 16 && bit % 2 == 0 ? 65 : 64;
            Due.is("lossAgainst(1 << " + bit + ")", x.lossAgainst(1 << bit), want);
        }
    }

    private static void highBitsLeaveAllAnswersAlone() {
        for (int low : LOW) {
            for (int high : HIGH) {
                int wide = low | high;
                Same.answers("hard(" + wide + ")", () -> withHard(wide), () -> withHard(low));
                Same.answers("soft(" + wide + ", 6)", () -> withSoft(wide), () -> withSoft(low));
                Due.is("lossAgainst(" + wide + ")",
                        Made.mixed(20).lossAgainst(wide), Made.mixed(20).lossAgainst(low));
            }
        }
    }

    private static SoftSolver withHard(int clause) {
        SoftSolver x = Made.mixed(2);
        x.hard(clause);
        x.soft(2, 3);
        return x;
    }

    private static SoftSolver withSoft(int clause) {
        SoftSolver x = Made.mixed(2);
        x.soft(clause, 6);
        x.soft(2, 3);
        return x;
    }
}
