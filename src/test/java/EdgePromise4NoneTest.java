/** Promise 4: drop answers "-1 if there is none" with the number. */
public final class EdgePromise4NoneTest {
    /** Some would be good ones if only their lowest bits were looked at. */
    private static final int[] NEVER = {
        24, 25, 31, 32, 255, 256, 257, 65535, 65536, 65537, 1 << 30, Integer.MAX_VALUE,
        -1, -2, -23, -24, -25, -255, -256, -65536, Integer.MIN_VALUE, Integer.MIN_VALUE + 1};

    public static void main(String[] args) {
        firstBeyondTheLast();
        neverANumber();
        goneAfterDrop();
        Due.end();
    }

    private static void firstBeyondTheLast() {
        for (int count = 0; count <= 24; count++) {
            int c = count;
            if (count > 0) {
                Due.is("drop(0) at " + count, Made.mixed(count).drop(0), count - 1);
                Due.is("drop(" + (count - 1) + ") at " + count, Made.mixed(count).drop(count - 1), count - 1);
            }
            Same.afterRefusal("drop(" + c + ") at " + c, () -> Made.mixed(c), x -> x.drop(c));
            Same.afterRefusal("drop(" + (c + 1) + ") at " + c, () -> Made.mixed(c), x -> x.drop(c + 1));
            Same.afterRefusal("drop(-1) at " + c, () -> Made.mixed(c), x -> x.drop(-1));
        }
    }

    private static void neverANumber() {
        for (int number : NEVER) {
            for (int count : Made.COUNTS) {
                Same.afterRefusal("drop(" + number + ") at " + count,
                        () -> Made.mixed(count), x -> x.drop(number));
            }
            Same.afterRefusal("drop(" + number + "), none allowed",
                    () -> Made.impossible(5), x -> x.drop(number));
        }
    }

    /** What a place once held must not make it a number again. */
    private static void goneAfterDrop() {
        Same.afterRefusal("drop(23) again", EdgePromise4NoneTest::onceFull, x -> x.drop(23));
        Same.afterRefusal("drop(0) of none left", EdgePromise4NoneTest::onceOne, x -> x.drop(0));
    }

    private static SoftSolver onceFull() {
        SoftSolver x = Made.mixed(24);
        x.drop(23);
        return x;
    }

    private static SoftSolver onceOne() {
        SoftSolver x = Made.mixed(1);
        x.drop(0);
        return x;
    }
}
