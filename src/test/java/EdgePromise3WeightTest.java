/** Promise 3: soft answers "-1, and changes nothing, if [..] weight is not from 1 to 50". */
public final class EdgePromise3WeightTest {
    /** Some would be good ones if only their lowest bits, or their distance from 0, were looked at. */
    private static final int[] TOO_SMALL = {
        0, -1, -2, -25, -50, -51, -206, -255, -256, -65535, -65536,
        Integer.MIN_VALUE, Integer.MIN_VALUE + 1, Integer.MIN_VALUE + 50};
    private static final int[] TOO_LARGE = {
        51, 52, 63, 64, 65, 100, 255, 256, 257, 306, 65535, 65536, 65537, 65586, 1 << 30,
        Integer.MAX_VALUE - 1, Integer.MAX_VALUE};

    public static void main(String[] args) {
        takenFromOneToFifty();
        refused(TOO_SMALL);
        refused(TOO_LARGE);
        Due.end();
    }

    private static void takenFromOneToFifty() {
        for (int weight = 1; weight <= 50; weight++) {
            for (int count : new int[] {0, 1, 23}) {
                int before = Made.mixed(count).loss();
                SoftSolver x = Made.mixed(count);
                Due.is("soft(0, " + weight + ") at " + count, x.soft(0, weight), count + 1);
                Due.is("loss() afterwards", x.loss(), before + weight);
            }
        }
    }

    private static void refused(int[] weights) {
        for (int weight : weights) {
            for (int count : Made.COUNTS) {
                for (int clause : new int[] {0, 1, 65535, -1}) {
                    Same.afterRefusal("soft(" + clause + ", " + weight + ") at " + count,
                            () -> Made.mixed(count), x -> x.soft(clause, weight));
                }
            }
            Same.afterRefusal("soft(1, " + weight + "), none allowed",
                    () -> Made.impossible(3), x -> x.soft(1, weight));
        }
    }
}
