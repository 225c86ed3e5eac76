/** Objects in the states in which the edges are looked at. */
final class Made {
    static final int[] COUNTS = {0, 1, 2, 12, 23, 24};

    private Made() {
    }

    /** Hard and soft clauses in turn, no two alike, so that one lost, moved or changed shows. */
    static SoftSolver mixed(int count) {
        SoftSolver x = new SoftSolver();
        for (int i = 0; i < count; i++) {
            addMixed(x, i);
        }
        return x;
    }

    static void addMixed(SoftSolver x, int i) {
        if (i % 4 == 3) {
            x.hard(1 << i % 16 | 1 << (i + 5) % 16 | 1 << (i + 8) % 16);
        } else {
            x.soft(1 << (7 * i) % 16, 1 + (11 * i) % 50);
        }
    }

    /** The first so many of them hard, the others soft; all assignments are allowed. */
    static SoftSolver firstHard(int hard, int count) {
        SoftSolver x = new SoftSolver();
        for (int i = 0; i < count; i++) {
            if (i < hard) {
                x.hard(3 << 2 * (i % 8));
            } else {
                x.soft(1 << i % 16, 1 + i);
            }
        }
        return x;
    }

    /** Hard clauses that together allow none, though each alone allows half. */
    static SoftSolver impossible(int softOnes) {
        SoftSolver x = new SoftSolver();
        x.hard(1);
        x.hard(2);
        for (int i = 0; i < softOnes; i++) {
            x.soft(1 << i % 16, 1 + i);
        }
        return x;
    }

    /** The eight hard clauses of one literal that leave this assignment alone. */
    static SoftSolver onlyAllowed(int assignment) {
        SoftSolver x = new SoftSolver();
        for (int v = 0; v < 8; v++) {
            x.hard(1 << literalOf(v, assignment));
        }
        return x;
    }

    /** The literal of the variable that is so in the assignment. */
    static int literalOf(int variable, int assignment) {
        boolean isTrue = (assignment & 1 << variable) != 0;
        return isTrue ? 2 * variable : 2 * variable + 1;
    }

    /** The clause that holds for all assignments but this one. */
    static int allBut(int assignment) {
        int clause = 0;
        for (int v = 0; v < 8; v++) {
            clause |= 1 << (literalOf(v, assignment) ^ 1);
        }
        return clause;
    }

    /** Told by division, not by a mask, so that it shares no mistake with the class. */
    static boolean holds(int clause, int assignment) {
        for (int v = 0; v < 8; v++) {
            int literal = literalOf(v, assignment);
            if (Math.floorMod(Math.floorDiv(clause, 1 << literal), 2) == 1) {
                return true;
            }
        }
        return false;
    }

    /** What this one assignment loses, or -1 if it is not allowed: no other one is asked about. */
    static int lossOf(SoftSolver x, int assignment) {
        return x.lossAgainst(allBut(assignment));
    }
}
