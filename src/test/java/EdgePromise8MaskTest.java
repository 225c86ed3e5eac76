/** Promise 8: lossWith asks for "the literal literal & 15", for any argument. */
public final class EdgePromise8MaskTest {
    private static final int[] STEPS = {
        16, 32, 256, 65536, 1 << 30, Integer.MIN_VALUE, -16, -32, -256, -65536, 0x7ffffff0, 0xfffffff0};

    /** Which literal of each variable is the cheap one; no step of literals repeats the pattern. */
    private static final int CHEAP = 0b10110001;

    public static void main(String[] args) {
        bothSidesOfSixteen();
        belowNought();
        everyStep();
        Due.end();
    }

    private static SoftSolver allApart() {
        SoftSolver x = new SoftSolver();
        for (int v = 0; v < 8; v++) {
            x.soft(1 << Made.literalOf(v, CHEAP), v + 1);
        }
        return x;
    }

    private static int due(int literal) {
        int variable = literal / 2;
        return literal == Made.literalOf(variable, CHEAP) ? 0 : variable + 1;
    }

    private static void bothSidesOfSixteen() {
        SoftSolver x = allApart();
        for (int literal = 0; literal < 48; literal++) {
            Due.is("lossWith(" + literal + ")", x.lossWith(literal), due(literal % 16));
        }
    }

    private static void belowNought() {
        SoftSolver x = allApart();
        for (int literal = -1; literal >= -48; literal--) {
            Due.is("lossWith(" + literal + ")", x.lossWith(literal), due(Math.floorMod(literal, 16)));
        }
        Due.is("lossWith(MIN_VALUE)", x.lossWith(Integer.MIN_VALUE), due(0));
        Due.is("lossWith(MIN_VALUE + 1)", x.lossWith(Integer.MIN_VALUE + 1), due(1));
        Due.is("lossWith(MAX_VALUE)", x.lossWith(Integer.MAX_VALUE), due(15));
        Due.is("lossWith(MAX_VALUE - 1)", x.lossWith(Integer.MAX_VALUE - 1), due(14));
    }

    private static void everyStep() {
        for (int step : STEPS) {
            SoftSolver x = allApart();
            for (int literal = 0; literal < 16; literal++) {
                int far = literal + step;
                Due.is("lossWith(" + far + ")", x.lossWith(far), due(literal));
            }
        }
    }
}
