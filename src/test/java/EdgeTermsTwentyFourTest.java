/** "HARD clauses and SOFT ones are held, at most 24 in all." */
public final class EdgeTermsTwentyFourTest {
    public static void main(String[] args) {
        inEveryMixture();
        roomComesBack();
        Due.end();
    }

    private static void inEveryMixture() {
        for (int hard = 0; hard <= 24; hard++) {
            int h = hard;
            String mixture = hard + " hard and " + (24 - hard) + " soft";
            Due.is(mixture + ": hard as the 24th", Made.firstHard(h, 23).hard(1), 24);
            Due.is(mixture + ": soft as the 24th", Made.firstHard(h, 23).soft(1, 1), 24);
            Same.afterRefusal(mixture + ": hard(0)", () -> Made.firstHard(h, 24), x -> x.hard(0));
            Same.afterRefusal(mixture + ": soft(0, 50)", () -> Made.firstHard(h, 24), x -> x.soft(0, 50));
        }
    }

    /** All 24 are held still: each is worth its weight until it is dropped. */
    private static void roomComesBack() {
        SoftSolver x = new SoftSolver();
        for (int i = 0; i < 24; i++) {
            x.soft(0, 2 * i + 1);
        }
        Due.is("loss() of 24", x.loss(), 576);
        for (int i = 0; i < 24; i++) {
            Due.is("hard(0) when full", x.hard(0), -1);
            Due.is("drop(0)", x.drop(0), 23);
            Due.is("soft(0, 50) with room for one", x.soft(0, 50), 24);
            Due.is("soft(0, 50) when full", x.soft(0, 50), -1);
            Due.is("possible()", x.possible(), 1);
        }
        Due.is("loss() of 24 new ones", x.loss(), 1200);
    }
}
