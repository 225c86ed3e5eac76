/** LANGUAGE.md, rule 7: "No call may ever throw or fail to end, for any arguments in any state." */
public final class CallsEndTest {
    private static final int METHODS = 9;
    private static final int LONG_RUN = 5000;
    private static final long MILLISECONDS = 120_000;
    private static final int[] ARGUMENTS = {
        0, 1, 2, 15, 16, 23, 24, 25, 31, 32, 50, 51, 255, 256, 65535, 65536, 1 << 30, Integer.MAX_VALUE,
        -1, -2, -16, -24, -50, -256, -65536, Integer.MIN_VALUE, Integer.MIN_VALUE + 1};

    /** The least and the greatest answer that the document leaves to each method. */
    private static final int[] LEAST = {-1, -1, -1, 0, -1, -1, -1, -1, -1};
    private static final int[] GREATEST = {24, 24, 23, 1, 1200, 255, 1200, 1200, 24};

    /** A call that never came back would stop the tests, not fail them, so another thread waits. */
    public static void main(String[] args) throws InterruptedException {
        Thread calls = new Thread(CallsEndTest::allCalls);
        calls.setDaemon(true);
        calls.start();
        calls.join(MILLISECONDS);
        Due.is("calls that don't end", calls.isAlive() ? 1 : 0, 0);
        Due.end();
    }

    private static void allCalls() {
        try {
            inEveryState();
            beyondTheLastCall();
        } catch (Throwable thrown) {
            Due.is("a call threw " + thrown, 1, 0);
        }
    }

    private static void inEveryState() {
        for (int count = 0; count <= 24; count++) {
            for (int method = 0; method < METHODS; method++) {
                for (int argument : ARGUMENTS) {
                    for (int second : method == 1 ? ARGUMENTS : new int[] {0}) {
                        inRange(Made.mixed(count), method, argument, second);
                    }
                    inRange(Made.firstHard(count, 24), method, argument, 1);
                    inRange(Made.impossible(Math.min(count, 22)), method, argument, 50);
                }
            }
        }
    }

    private static void inRange(SoftSolver x, int method, int argument, int second) {
        int answer = call(x, method, argument, second);
        boolean good = LEAST[method] <= answer && answer <= GREATEST[method];
        String what = "method " + method + " with " + argument + " and " + second + ": in range " + answer;
        Due.is(what, good ? 1 : 0, 1);
    }

    /** What these calls answer is free, but they come back. */
    private static void beyondTheLastCall() {
        SoftSolver x = new SoftSolver();
        for (int i = 0; i < LONG_RUN; i++) {
            int argument = ARGUMENTS[i * 7 % ARGUMENTS.length];
            call(x, i * 5 % 11 % METHODS, argument, 1 + i % 50);
        }
        SoftSolver full = Made.mixed(24);
        for (int i = 0; i < LONG_RUN; i++) {
            call(full, i % 2, ARGUMENTS[i % ARGUMENTS.length], 1);
        }
        SoftSolver empty = new SoftSolver();
        for (int i = 0; i < LONG_RUN; i++) {
            call(empty, 2, ARGUMENTS[i % ARGUMENTS.length], 1);
        }
    }

    private static int call(SoftSolver x, int method, int argument, int second) {
        switch (method) {
            case 0: return x.hard(argument);
            case 1: return x.soft(argument, second);
            case 2: return x.drop(argument);
            case 3: return x.possible();
            case 4: return x.loss();
            case 5: return x.best();
            case 6: return x.lossWith(argument);
            case 7: return x.lossAgainst(argument);
            default: return x.kept();
        }
    }
}
