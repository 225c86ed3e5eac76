import java.util.ArrayList;
import java.util.List;

/** Long mixed runs, 512 calls each, beside a model that follows the document's terms word for word. */
public final class ModelTest {
    private static final int RUNS = 300;
    private static final int CALLS = 512;

    private static final class Clause {
        final boolean hard;
        final int weight;
        final List<Integer> literals = new ArrayList<>();

        Clause(boolean hard, int bits, int weight) {
            this.hard = hard;
            this.weight = weight;
            for (int literal = 0; literal < 16; literal++) {
                if (Math.floorMod(Math.floorDiv(bits, 1 << literal), 2) == 1) {
                    literals.add(literal);
                }
            }
        }

        boolean holds(int assignment) {
            return literals.stream().anyMatch(literal -> isSo(literal, assignment));
        }
    }

    private static boolean isSo(int literal, int assignment) {
        boolean isTrue = Math.floorMod(assignment / (1 << (literal / 2)), 2) == 1;
        return literal % 2 == 0 ? isTrue : !isTrue;
    }

    private final List<Clause> held = new ArrayList<>();
    private final SoftSolver solver = new SoftSolver();
    private final int flavour;
    private final int run;
    private long state;

    private ModelTest(int run) {
        this.run = run;
        this.flavour = run % 4;
        this.state = 977L * run + 12345;
    }

    public static void main(String[] args) {
        for (int run = 0; run < RUNS; run++) {
            ModelTest test = new ModelTest(run);
            for (int call = 0; call < CALLS; call++) {
                test.step();
            }
        }
        Due.end();
    }

    /** A fixed sequence, so that every run of the tests makes the same calls. */
    private int next(int bound) {
        state = state * 6364136223846793005L + 1442695040888963407L;
        return (int) ((state >>> 33) % bound);
    }

    private int anyInt() {
        int high = next(1 << 16);
        return high << 16 | next(1 << 16);
    }

    /** Short clauses leave many assignments apart; long and wild ones reach the edges. */
    private int clause() {
        int kind = next(20);
        if (kind == 0) {
            return anyInt();
        }
        int bits = kind == 1 ? 0 : 1 << next(16);
        for (int i = next(flavour + 2); i > 0; i--) {
            bits |= 1 << next(16);
        }
        return kind == 2 ? bits | next(1 << 15) << 16 : bits;
    }

    private int weight() {
        switch (next(12)) {
            case 0: return next(3) - 1;
            case 1: return 49 + next(4);
            case 2: return anyInt();
            case 3: case 4: case 5: return 1 + next(3);
            default: return 1 + next(50);
        }
    }

    private void step() {
        int choice = next(16);
        if (choice < 2) {
            addHard(clause());
        } else if (choice < 5) {
            addSoft(clause(), weight());
        } else if (choice < 7) {
            drop(next(8) == 0 ? anyInt() : next(held.size() + 3) - 1);
        } else {
            ask(choice);
        }
    }

    private void is(String call, int got, int want) {
        Due.is("run " + run + ": " + call, got, want);
    }

    private void addHard(int clause) {
        int want = -1;
        if (held.size() < 24) {
            held.add(new Clause(true, clause, 0));
            want = held.size();
        }
        is("hard(" + clause + ")", solver.hard(clause), want);
    }

    private void addSoft(int clause, int weight) {
        int want = -1;
        if (held.size() < 24 && weight >= 1 && weight <= 50) {
            held.add(new Clause(false, clause, weight));
            want = held.size();
        }
        is("soft(" + clause + ", " + weight + ")", solver.soft(clause, weight), want);
    }

    private void drop(int number) {
        int want = -1;
        if (number >= 0 && number < held.size()) {
            held.remove(number);
            want = held.size();
        }
        is("drop(" + number + ")", solver.drop(number), want);
    }

    private void ask(int choice) {
        List<Integer> allowed = allowed();
        if (choice == 7) {
            is("possible()", solver.possible(), allowed.isEmpty() ? 0 : 1);
        } else if (choice == 8) {
            is("loss()", solver.loss(), leastLoss(allowed));
        } else if (choice == 9) {
            is("best()", solver.best(), bestOf(allowed));
        } else if (choice == 10) {
            is("kept()", solver.kept(), keptBy(bestOf(allowed)));
        } else if (choice < 13) {
            int literal = next(4) == 0 ? anyInt() : next(16);
            allowed.removeIf(assignment -> !isSo(Math.floorMod(literal, 16), assignment));
            is("lossWith(" + literal + ")", solver.lossWith(literal), leastLoss(allowed));
        } else {
            int bits = clause();
            Clause against = new Clause(true, bits, 0);
            allowed.removeIf(against::holds);
            is("lossAgainst(" + bits + ")", solver.lossAgainst(bits), leastLoss(allowed));
        }
    }

    private List<Integer> allowed() {
        List<Integer> allowed = new ArrayList<>();
        for (int assignment = 0; assignment < 256; assignment++) {
            int a = assignment;
            if (held.stream().allMatch(clause -> !clause.hard || clause.holds(a))) {
                allowed.add(a);
            }
        }
        return allowed;
    }

    private int lossOf(int assignment) {
        return held.stream().filter(clause -> !clause.hard && !clause.holds(assignment))
                .mapToInt(clause -> clause.weight).sum();
    }

    private int leastLoss(List<Integer> among) {
        return among.stream().mapToInt(this::lossOf).min().orElse(-1);
    }

    private int bestOf(List<Integer> among) {
        int least = leastLoss(among);
        return among.stream().filter(assignment -> lossOf(assignment) == least)
                .mapToInt(assignment -> assignment).min().orElse(-1);
    }

    private int keptBy(int assignment) {
        if (assignment == -1) {
            return -1;
        }
        return (int) held.stream().filter(clause -> !clause.hard && clause.holds(assignment)).count();
    }
}
