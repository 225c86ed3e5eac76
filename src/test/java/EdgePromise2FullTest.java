/** Promise 2: hard answers the number of clauses then, "or -1 if there are 24". */
public final class EdgePromise2FullTest {
    private static final int[] CLAUSES = {0, 1, 32768, 65535, 65536, -1, Integer.MAX_VALUE, Integer.MIN_VALUE};

    public static void main(String[] args) {
        takenBelowTwentyFour();
        refusedAtTwentyFour();
        takenAgainAfterDrop();
        Due.end();
    }

    private static void takenBelowTwentyFour() {
        for (int count = 0; count < 24; count++) {
            SoftSolver x = Made.mixed(count);
            Due.is("hard(0) at " + count, x.hard(0), count + 1);
            Due.is("possible() after hard(0) at " + count, x.possible(), 0);
        }
    }

    private static void refusedAtTwentyFour() {
        for (int clause : CLAUSES) {
            Due.is("hard(" + clause + ") at 23", Made.mixed(23).hard(clause), 24);
            Same.afterRefusal("hard(" + clause + ") at 24", () -> Made.mixed(24), x -> x.hard(clause));
            Same.afterRefusal("hard(" + clause + ") at 24, none allowed",
                    () -> Made.impossible(22), x -> x.hard(clause));
        }
        Same.answers("after hard(0) ten times at 24",
                EdgePromise2FullTest::refusedTenTimes, () -> Made.mixed(24));
    }

    private static SoftSolver refusedTenTimes() {
        SoftSolver x = Made.mixed(24);
        for (int i = 0; i < 10; i++) {
            Due.is("hard(0) at 24, time " + i, x.hard(0), -1);
        }
        return x;
    }

    private static void takenAgainAfterDrop() {
        for (int number = 0; number < 24; number++) {
            SoftSolver x = Made.mixed(24);
            Due.is("possible() at 24", x.possible(), 1);
            Due.is("hard(0) at 24", x.hard(0), -1);
            Due.is("drop(" + number + ")", x.drop(number), 23);
            Due.is("possible() at 23", x.possible(), 1);
            Due.is("hard(0) at 23", x.hard(0), 24);
            Due.is("possible() after hard(0)", x.possible(), 0);
        }
    }
}
