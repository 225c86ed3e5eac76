/** Promise 3: soft answers "-1, and changes nothing, if there are 24". */
public final class EdgePromise3FullTest {
    private static final int[] CLAUSES = {0, 1, 32768, 65535, 65536, -1, Integer.MAX_VALUE, Integer.MIN_VALUE};
    private static final int[] WEIGHTS = {1, 2, 49, 50};

    public static void main(String[] args) {
        takenBelowTwentyFour();
        refusedAtTwentyFour();
        takenAgainAfterDrop();
        Due.end();
    }

    private static void takenBelowTwentyFour() {
        for (int count = 0; count < 24; count++) {
            int before = Made.mixed(count).loss();
            SoftSolver x = Made.mixed(count);
            Due.is("soft(0, 50) at " + count, x.soft(0, 50), count + 1);
            Due.is("loss() after soft(0, 50) at " + count, x.loss(), before + 50);
        }
    }

    private static void refusedAtTwentyFour() {
        for (int clause : CLAUSES) {
            for (int weight : WEIGHTS) {
                String call = "soft(" + clause + ", " + weight + ")";
                Due.is(call + " at 23", Made.mixed(23).soft(clause, weight), 24);
                Same.afterRefusal(call + " at 24", () -> Made.mixed(24), x -> x.soft(clause, weight));
                Same.afterRefusal(call + " at 24, none allowed",
                        () -> Made.impossible(22), x -> x.soft(clause, weight));
            }
        }
    }

    private static void takenAgainAfterDrop() {
        for (int number = 0; number < 24; number++) {
            SoftSolver x = Made.mixed(24);
            Due.is("soft(0, 50) at 24", x.soft(0, 50), -1);
            Due.is("drop(" + number + ")", x.drop(number), 23);
            int before = x.loss();
            Due.is("soft(0, 50) at 23", x.soft(0, 50), 24);
            Due.is("loss() after soft(0, 50)", x.loss(), before + 50);
        }
    }
}
