/** Clauses over eight variables: hard ones must hold, soft ones should, each with a weight. */
public final class SoftSolver {
    private static final int MAX_CLAUSES = 24;
    private static final int MAX_WEIGHT = 50;
    private static final int VARIABLES = 8;
    private static final int ASSIGNMENTS = 256;
    private static final int CLAUSE_BITS = 65535;
    private static final int LITERAL_BITS = 15;
    private static final int EMPTY_CLAUSE = 0;
    private static final int NONE = -1;

    // No soft clause may weigh 0, so that weight can mark the hard ones.
    private static final int HARD_MARK = 0;

    private final int[] clauses = new int[MAX_CLAUSES];
    private final int[] weights = new int[MAX_CLAUSES];
    private int count;

    public SoftSolver() {
        count = 0;
    }

    public int hard(int clause) {
        return append(clause, HARD_MARK);
    }

    public int soft(int clause, int weight) {
        if (weight < 1 || weight > MAX_WEIGHT) {
            return NONE;
        }
        return append(clause, weight);
    }

    public int drop(int number) {
        if (number < 0 || number >= count) {
            return NONE;
        }
        for (int i = number + 1; i < count; i++) {
            clauses[i - 1] = clauses[i];
            weights[i - 1] = weights[i];
        }
        count--;
        return count;
    }

    public int possible() {
        int assignment = bestAgainst(EMPTY_CLAUSE);
        return assignment == NONE ? 0 : 1;
    }

    public int loss() {
        return leastLossAgainst(EMPTY_CLAUSE);
    }

    public int best() {
        return bestAgainst(EMPTY_CLAUSE);
    }

    public int lossWith(int literal) {
        // A literal is so exactly when the clause of its opposite alone does not hold.
        int opposite = (literal & LITERAL_BITS) ^ 1;
        return leastLossAgainst(1 << opposite);
    }

    public int lossAgainst(int clause) {
        return leastLossAgainst(clause & CLAUSE_BITS);
    }

    public int kept() {
        int assignment = bestAgainst(EMPTY_CLAUSE);
        if (assignment == NONE) {
            return NONE;
        }
        return softHeldBy(assignment);
    }

    private int append(int clause, int weight) {
        if (count >= MAX_CLAUSES) {
            return NONE;
        }
        clauses[count] = clause & CLAUSE_BITS;
        weights[count] = weight;
        count++;
        return count;
    }

    private int leastLossAgainst(int clause) {
        int assignment = bestAgainst(clause);
        if (assignment == NONE) {
            return NONE;
        }
        return lossOf(assignment);
    }

    /** The best assignment among those for which the clause does not hold; the empty clause leaves all. */
    private int bestAgainst(int clause) {
        int found = NONE;
        int least = 0;
        for (int assignment = 0; assignment < ASSIGNMENTS; assignment++) {
            if (holds(clause, assignment) || !isAllowed(assignment)) {
                continue;
            }
            int lost = lossOf(assignment);
            // Strictly less, so that of equal losses the least assignment stays.
            if (found == NONE || lost < least) {
                found = assignment;
                least = lost;
            }
        }
        return found;
    }

    private boolean isAllowed(int assignment) {
        int literals = literalsOf(assignment);
        for (int i = 0; i < count; i++) {
            if (weights[i] == HARD_MARK && (clauses[i] & literals) == 0) {
                return false;
            }
        }
        return true;
    }

    private int lossOf(int assignment) {
        int literals = literalsOf(assignment);
        int sum = 0;
        for (int i = 0; i < count; i++) {
            // A hard clause weighs 0 and so adds nothing.
            if ((clauses[i] & literals) == 0) {
                sum += weights[i];
            }
        }
        return sum;
    }

    private int softHeldBy(int assignment) {
        int literals = literalsOf(assignment);
        int held = 0;
        for (int i = 0; i < count; i++) {
            if (weights[i] != HARD_MARK && (clauses[i] & literals) != 0) {
                held++;
            }
        }
        return held;
    }

    private static boolean holds(int clause, int assignment) {
        int literals = literalsOf(assignment);
        return (clause & literals) != 0;
    }

    /** The literals that are so, written like a clause, so that one mask tells whether a clause holds. */
    private static int literalsOf(int assignment) {
        int literals = 0;
        for (int v = 0; v < VARIABLES; v++) {
            int isFalse = ((assignment >> v) & 1) ^ 1;
            literals |= 1 << (2 * v + isFalse);
        }
        return literals;
    }
}
