/** "An object is used for at most 512 calls after it has been made": the 512th is still answered right. */
public final class EdgeLastCallTest {
    private static final int CALLS = 512;

    public static void main(String[] args) {
        askedAllTheTime();
        filledAndEmptied();
        refusedAllTheTime();
        Due.end();
    }

    private static void askedAllTheTime() {
        SoftSolver x = Made.mixed(24);
        SoftSolver first = Made.mixed(24);
        int[] want = {first.possible(), first.loss(), first.best(), first.kept(),
            first.lossWith(6), first.lossAgainst(9)};
        for (int call = 25; call <= CALLS; call++) {
            Due.is("call " + call, ask(x, call % 6), want[call % 6]);
        }
    }

    private static int ask(SoftSolver x, int question) {
        switch (question) {
            case 0: return x.possible();
            case 1: return x.loss();
            case 2: return x.best();
            case 3: return x.kept();
            case 4: return x.lossWith(6);
            default: return x.lossAgainst(9);
        }
    }

    /** 48 calls a round; the greatest number of clauses comes back every time. */
    private static void filledAndEmptied() {
        SoftSolver x = new SoftSolver();
        for (int call = 0; call < CALLS; call++) {
            int step = call % 48;
            if (step < 24) {
                Due.is("soft, call " + (call + 1), x.soft(1, 1), step + 1);
            } else {
                Due.is("drop(0), call " + (call + 1), x.drop(0), 47 - step);
            }
        }
    }

    private static void refusedAllTheTime() {
        SoftSolver x = new SoftSolver();
        x.soft(0, 50);
        for (int call = 2; call < CALLS; call++) {
            Due.is("soft(0, 51), call " + call, x.soft(0, 51), -1);
        }
        Due.is("loss(), call 512", x.loss(), 50);
    }
}
