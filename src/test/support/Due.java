/** Compares answers with the ones that are due and ends the program with 1 if one was wrong. */
final class Due {
    private static int wrong = 0;
    private static int compared = 0;

    private Due() {
    }

    static void is(String call, long got, long want) {
        compared++;
        if (got != want) {
            wrong++;
            System.out.println(call + " answered " + got + ", due is " + want);
        }
    }

    static void end() {
        System.out.println(compared + " answers, " + wrong + " not as due");
        // A test that compares nothing would pass whatever the class did.
        if (wrong != 0 || compared == 0) {
            System.exit(1);
        }
    }
}
