/** Promise 4: drop takes the clause out; "the ones behind it move one place back". */
public final class EdgePromise4MoveTest {
    public static void main(String[] args) {
        likeNeverAdded();
        everyPlaceOfEveryRow();
        addedBehindTheLast();
        downToNothing();
        Due.end();
    }

    private static SoftSolver without(int left, int count) {
        SoftSolver x = new SoftSolver();
        for (int i = 0; i < count; i++) {
            if (i != left) {
                Made.addMixed(x, i);
            }
        }
        return x;
    }

    private static SoftSolver dropped(int number, int count) {
        SoftSolver x = Made.mixed(count);
        Due.is("drop(" + number + ") of " + count, x.drop(number), count - 1);
        return x;
    }

    private static void likeNeverAdded() {
        for (int count : new int[] {1, 2, 3, 12, 23, 24}) {
            for (int number = 0; number < count; number++) {
                int n = number;
                Same.answers("after drop(" + n + ") of " + count,
                        () -> dropped(n, count), () -> without(n, count));
            }
        }
    }

    /** Each clause, once one in front of it is gone, is found one place back and is the same one. */
    private static void everyPlaceOfEveryRow() {
        for (int count = 2; count <= 24; count++) {
            for (int number = 0; number + 1 < count; number++) {
                SoftSolver x = new SoftSolver();
                int all = 0;
                for (int i = 0; i < count; i++) {
                    x.soft(0, i + 1);
                    all += i + 1;
                }
                Due.is("drop(" + number + ") of " + count, x.drop(number), count - 1);
                Due.is("loss()", x.loss(), all - (number + 1));
                Due.is("drop(" + number + ") again", x.drop(number), count - 2);
                Due.is("loss()", x.loss(), all - (number + 1) - (number + 2));
            }
        }
    }

    private static void addedBehindTheLast() {
        SoftSolver x = Made.mixed(24);
        int before = x.loss();
        x.drop(23);
        Due.is("hard(0)", x.hard(0), 24);
        Due.is("possible()", x.possible(), 0);
        Due.is("drop(23), the hard one", x.drop(23), 23);
        Due.is("possible()", x.possible(), 1);
        Made.addMixed(x, 23);
        Due.is("loss() of the first row again", x.loss(), before);
    }

    private static void downToNothing() {
        SoftSolver front = Made.mixed(24);
        SoftSolver back = Made.mixed(24);
        for (int left = 23; left >= 0; left--) {
            Due.is("drop(0) with " + left + " behind it", front.drop(0), left);
            Due.is("drop(" + left + "), the last", back.drop(left), left);
            SoftSolver firstOnes = Made.mixed(left);
            Due.is("loss() of the first " + left, back.loss(), firstOnes.loss());
            Due.is("best() of the first " + left, back.best(), firstOnes.best());
        }
        Due.is("drop(0) of nothing", front.drop(0), -1);
        Due.is("drop(0) of nothing", back.drop(0), -1);
        Due.is("hard(3)", front.hard(3), 1);
    }
}
