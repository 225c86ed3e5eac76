public final class Promise1NewObjectTest {
    public static void main(String[] args) {
        noClause();
        objectsAreApart();
        Due.end();
    }

    private static void noClause() {
        SoftSolver x = new SoftSolver();
        Due.is("possible()", x.possible(), 1);
        Due.is("loss()", x.loss(), 0);
        Due.is("best()", x.best(), 0);
        Due.is("kept()", x.kept(), 0);
        for (int literal = 0; literal < 16; literal++) {
            Due.is("lossWith(" + literal + ")", x.lossWith(literal), 0);
            Due.is("lossAgainst(" + (1 << literal) + ")", x.lossAgainst(1 << literal), 0);
        }
        Due.is("lossAgainst(0)", x.lossAgainst(0), 0);
        Due.is("lossAgainst(65535)", x.lossAgainst(65535), -1);
        Due.is("drop(0)", x.drop(0), -1);
        Due.is("the first hard(1)", x.hard(1), 1);
        Due.is("the first soft(1, 1)", new SoftSolver().soft(1, 1), 1);
    }

    private static void objectsAreApart() {
        SoftSolver x = new SoftSolver();
        x.hard(0);
        x.soft(1, 50);
        SoftSolver y = new SoftSolver();
        Due.is("possible() of another object", y.possible(), 1);
        Due.is("loss() of another object", y.loss(), 0);
        Due.is("hard(1) of another object", y.hard(1), 1);
        Due.is("possible() of the first object", x.possible(), 0);
        Due.is("hard(1) of the first object", x.hard(1), 3);
    }
}
