/** "A soft one has a WEIGHT from 1 to 50." */
public final class EdgeTermsWeightTest {
    public static void main(String[] args) {
        eachCountsAsItIs();
        manyAgainstTheGreatest();
        twentyFourOfTheGreatest();
        hardOnesHaveNone();
        Due.end();
    }

    private static void eachCountsAsItIs() {
        for (int weight = -3; weight <= 53; weight++) {
            boolean good = 1 <= weight && weight <= 50;
            SoftSolver x = new SoftSolver();
            Due.is("soft(0, " + weight + ")", x.soft(0, weight), good ? 1 : -1);
            Due.is("loss()", x.loss(), good ? weight : 0);
        }
    }

    /** Many light clauses against one of the greatest weight, one below it, the same, and above. */
    private static void manyAgainstTheGreatest() {
        SoftSolver x = new SoftSolver();
        x.soft(1, 50);
        for (int i = 0; i < 22; i++) {
            x.soft(2, 2);
        }
        Due.is("best() with 50 to 44", x.best(), 1);
        Due.is("loss() with 50 to 44", x.loss(), 44);
        x.soft(2, 6);
        Due.is("best() with 50 to 50", x.best(), 0);
        Due.is("loss() with 50 to 50", x.loss(), 50);
        x.drop(23);
        x.soft(2, 5);
        Due.is("best() with 50 to 49", x.best(), 1);
        Due.is("loss() with 50 to 49", x.loss(), 49);
        x.drop(23);
        x.soft(2, 7);
        Due.is("best() with 50 to 51", x.best(), 0);
        Due.is("loss() with 50 to 51", x.loss(), 50);
    }

    private static void twentyFourOfTheGreatest() {
        SoftSolver x = new SoftSolver();
        for (int i = 1; i <= 24; i++) {
            x.soft(0, 50);
            Due.is("loss() of " + i + " times 50", x.loss(), 50 * i);
            Due.is("lossWith(15)", x.lossWith(15), 50 * i);
            Due.is("lossAgainst(21845)", x.lossAgainst(21845), 50 * i);
        }
    }

    private static void hardOnesHaveNone() {
        SoftSolver x = new SoftSolver();
        x.hard(1);
        Due.is("loss() of a hard one", x.loss(), 0);
        Due.is("kept() of a hard one", x.kept(), 0);
        x.soft(1, 1);
        Due.is("kept() of a soft one of weight 1", x.kept(), 1);
    }
}
