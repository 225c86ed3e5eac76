import java.util.function.Supplier;
import java.util.function.ToIntFunction;

/** Compares two objects by every answer they give, since what one holds can't be seen otherwise. */
final class Same {
    private static final int MORE_THAN_HELD = 25;

    private Same() {
    }

    /** The call answers -1, and an object on which it was made answers like one on which it wasn't. */
    static void afterRefusal(String call, Supplier<SoftSolver> make, ToIntFunction<SoftSolver> refused) {
        Due.is(call, refused.applyAsInt(make.get()), -1);
        answers("after " + call, () -> {
            SoftSolver x = make.get();
            refused.applyAsInt(x);
            return x;
        }, make);
    }

    /** New objects for each part keep every one of them below its 512 calls. */
    static void answers(String when, Supplier<SoftSolver> got, Supplier<SoftSolver> want) {
        questions(when, got.get(), want.get());
        clausesInOrder(when, got.get(), want.get());
        roomLeft(when, got.get(), want.get());
    }

    private static void questions(String when, SoftSolver got, SoftSolver want) {
        wholeState(when, got, want);
        for (int l = 0; l < 16; l++) {
            int pair = 1 << l | 1 << (l + 5) % 16;
            Due.is(when + ": lossWith(" + l + ")", got.lossWith(l), want.lossWith(l));
            Due.is(when + ": lossAgainst(" + (1 << l) + ")", got.lossAgainst(1 << l), want.lossAgainst(1 << l));
            Due.is(when + ": lossAgainst(" + pair + ")", got.lossAgainst(pair), want.lossAgainst(pair));
        }
        Due.is(when + ": lossAgainst(0)", got.lossAgainst(0), want.lossAgainst(0));
        Due.is(when + ": lossAgainst(21845)", got.lossAgainst(21845), want.lossAgainst(21845));
        Due.is(when + ": lossAgainst(43690)", got.lossAgainst(43690), want.lossAgainst(43690));
        Due.is(when + ": lossAgainst(65535)", got.lossAgainst(65535), want.lossAgainst(65535));
    }

    private static void wholeState(String when, SoftSolver got, SoftSolver want) {
        Due.is(when + ": possible()", got.possible(), want.possible());
        Due.is(when + ": loss()", got.loss(), want.loss());
        Due.is(when + ": best()", got.best(), want.best());
        Due.is(when + ": kept()", got.kept(), want.kept());
    }

    private static void clausesInOrder(String when, SoftSolver got, SoftSolver want) {
        for (int i = 0; i < MORE_THAN_HELD; i++) {
            Due.is(when + ": drop(0), time " + i, got.drop(0), want.drop(0));
            wholeState(when + " and then " + (i + 1) + " times drop(0)", got, want);
        }
    }

    private static void roomLeft(String when, SoftSolver got, SoftSolver want) {
        for (int i = 0; i < MORE_THAN_HELD; i++) {
            Due.is(when + ": soft(0, 1), time " + i, got.soft(0, 1), want.soft(0, 1));
            Due.is(when + " and then soft(0, 1): loss()", got.loss(), want.loss());
        }
    }
}
