/** Promise 9: lossAgainst takes "the clause (as a number; held or not)". */
public final class EdgePromise9NumberTest {
    public static void main(String[] args) {
        notThePlaceOfAClause();
        heldAndNotHeld();
        everyAssignmentByItsClause();
        onlySixteenBits();
        Due.end();
    }

    /** Clause number 0 is 4 and number 1 is 16; the numbers 0, 1 and 2 as clauses are others. */
    private static void notThePlaceOfAClause() {
        SoftSolver x = new SoftSolver();
        x.soft(4, 7);
        x.soft(16, 9);
        x.soft(1, 20);
        Due.is("lossAgainst(0)", x.lossAgainst(0), 0);
        Due.is("lossAgainst(1)", x.lossAgainst(1), 20);
        Due.is("lossAgainst(2)", x.lossAgainst(2), 0);
        Due.is("lossAgainst(3)", x.lossAgainst(3), -1);
        Due.is("lossAgainst(4)", x.lossAgainst(4), 7);
        Due.is("lossAgainst(16)", x.lossAgainst(16), 9);
    }

    private static void heldAndNotHeld() {
        SoftSolver x = new SoftSolver();
        Due.is("lossAgainst(5), not held", x.lossAgainst(5), 0);
        x.soft(5, 8);
        Due.is("lossAgainst(5), held as a soft one", x.lossAgainst(5), 8);
        x.soft(5, 8);
        Due.is("lossAgainst(5), held twice", x.lossAgainst(5), 16);
        x.hard(5);
        Due.is("lossAgainst(5), held as a hard one", x.lossAgainst(5), -1);
        x.drop(2);
        x.drop(1);
        x.drop(0);
        Due.is("lossAgainst(5), dropped", x.lossAgainst(5), 0);
        Due.is("hard(5) after all the asking", x.hard(5), 1);
    }

    /** Weights 1, 2, 4, .. 32 for six variables let the answer tell the assignment. */
    private static void everyAssignmentByItsClause() {
        SoftSolver x = new SoftSolver();
        for (int v = 0; v < 6; v++) {
            x.soft(2 << 2 * v, 1 << v);
        }
        for (int assignment = 0; assignment < 256; assignment++) {
            Due.is("lossAgainst(all but " + assignment + ")",
                    x.lossAgainst(Made.allBut(assignment)), assignment % 64);
        }
    }

    private static void onlySixteenBits() {
        SoftSolver x = new SoftSolver();
        x.soft(1 << 15, 6);
        x.soft(1 << 14, 2);
        Due.is("lossAgainst(32768)", x.lossAgainst(32768), 6);
        Due.is("lossAgainst(16384)", x.lossAgainst(16384), 2);
        Due.is("lossAgainst(65535)", x.lossAgainst(65535), -1);
        Due.is("lossAgainst(65536)", x.lossAgainst(65536), 2);
        Due.is("lossAgainst(65536 + 32768)", x.lossAgainst(65536 + 32768), 6);
        Due.is("lossAgainst(MIN_VALUE)", x.lossAgainst(Integer.MIN_VALUE), 2);
        Due.is("lossAgainst(MIN_VALUE + 32768)", x.lossAgainst(Integer.MIN_VALUE + 32768), 6);
        Due.is("lossAgainst(-1)", x.lossAgainst(-1), -1);
        Due.is("lossAgainst(-32768)", x.lossAgainst(-32768), 6);
        Due.is("lossAgainst(-65536)", x.lossAgainst(-65536), 2);
        Due.is("lossAgainst(MAX_VALUE)", x.lossAgainst(Integer.MAX_VALUE), -1);
    }
}
