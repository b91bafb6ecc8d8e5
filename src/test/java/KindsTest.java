/** Promises 3 and 5: each kind of constraint holds for just the assignments that the document says. */
public final class KindsTest {
    private static final Checks checks = new Checks();

    public static void main(String[] args) {
        byHand();
        for (int kind = 0; kind <= 8; kind++) {
            everyAssignment(kind);
        }
        everyConstraint(2, 15, 0, 0);
        everyConstraint(4, 3, 3, 3);
        everyConstraint(5, 23, 23, 0);
        everyConstraint(6, 3, 3, 5);
        everyConstraint(7, 15, 4, 5);
        everyConstraint(8, 3, 3, 15);
        checks.end();
    }

    /** Rows {kind, p, q, r, the four values, 1 if it holds}, worked out by hand. */
    private static void byHand() {
        int[][] rows = {
            // weights 1, 2, 3, -3 are the digits 4, 5, 6, 0
            {0, 4 + 5 * 7 + 6 * 49, 3, 0, 5, 2, 3, 5, 1}, {0, 4 + 5 * 7 + 6 * 49, 2, 0, 5, 2, 3, 5, 0},
            {1, 4 + 5 * 7 + 6 * 49, 3, 0, 5, 2, 3, 5, 1}, {1, 4 + 5 * 7 + 6 * 49, 4, 0, 5, 2, 3, 5, 0},
            {0, 0, -60, 0, 5, 5, 5, 5, 1}, {0, 0, -60, 0, 5, 5, 5, 4, 0},
            {1, 2400, 60, 0, 5, 5, 5, 5, 1}, {1, 1200, 0, 0, 5, 1, 2, 4, 1}, {0, 1200, -1, 0, 0, 0, 0, 0, 0},
            {2, 15, 0, 0, 0, 1, 2, 3, 1}, {2, 15, 0, 0, 0, 1, 2, 0, 0}, {2, 7, 0, 0, 0, 1, 2, 0, 1},
            {2, 0, 0, 0, 1, 1, 1, 1, 1}, {2, 8, 0, 0, 1, 1, 1, 1, 1}, {2, 10, 0, 0, 1, 2, 1, 2, 0},
            // 44790 is 543210 to base 6: digit number d is d
            {3, 0, 1, 44790, 4, 4, 0, 0, 1}, {3, 0, 1, 44790, 4, 3, 0, 0, 0}, {3, 2, 2, 44790, 0, 0, 5, 0, 1},
            {3, 1, 0, 5, 0, 5, 1, 1, 1}, {3, 1, 0, 5, 5, 0, 1, 1, 1}, {3, 1, 0, 5, 0, 0, 1, 1, 0},
            {3, 3, 0, 38880, 5, 0, 0, 5, 1}, {3, 3, 0, 38880, 4, 0, 0, 5, 0},
            {4, 0, 1, 2, 2, 2, 4, 0, 1}, {4, 0, 1, 2, 2, 3, 0, 0, 0}, {4, 3, 3, 3, 0, 0, 0, 1, 1}, {4, 3, 3, 3, 0, 0, 0, 2, 0},
            {5, 8, 20, 0, 0, 2, 0, 2, 1}, {5, 8, 20, 0, 0, 2, 0, 1, 0}, {5, 8, 20, 0, 0, 1, 0, 1, 1}, {5, 8, 20, 0, 0, 1, 0, 5, 0},
            {5, 23, 0, 0, 3, 3, 3, 5, 1}, {5, 23, 0, 0, 3, 3, 3, 4, 0},
            {6, 0, 3, 2, 1, 0, 0, 3, 1}, {6, 0, 3, 2, 3, 0, 0, 1, 1}, {6, 0, 3, 2, 3, 0, 0, 2, 0},
            {6, 1, 1, 0, 0, 4, 0, 0, 1}, {6, 1, 1, 1, 0, 4, 0, 0, 0}, {6, 0, 1, 5, 5, 0, 0, 0, 1}, {6, 0, 1, 5, 5, 1, 0, 0, 0},
            {7, 15, 2, 3, 3, 0, 3, 1, 1}, {7, 15, 2, 3, 3, 3, 3, 1, 0}, {7, 5, 2, 3, 3, 3, 3, 3, 1}, {7, 0, 0, 3, 3, 3, 3, 3, 1},
            {7, 0, 1, 3, 3, 3, 3, 3, 0}, {7, 15, 4, 5, 5, 5, 5, 5, 1}, {7, 15, 0, 5, 4, 4, 4, 4, 1},
            // r = 6: variable 2 at most variable 1
            {8, 0, 3, 6, 1, 0, 5, 2, 1}, {8, 0, 3, 6, 2, 5, 0, 1, 0}, {8, 0, 3, 6, 2, 4, 4, 2, 1}, {8, 0, 3, 6, 2, 4, 5, 2, 0},
            {8, 0, 3, 6, 2, 4, 3, 2, 1}, {8, 1, 1, 15, 0, 0, 0, 0, 1},
        };
        for (int[] row : rows) {
            for (int way = 0; way <= 2; way++) {
                DomainSolver x = Solvers.withValues(way, row[4], row[5], row[6], row[7]);
                x.constraint(row[0], row[1], row[2], row[3]);
                checks.due(java.util.Arrays.toString(row) + " way " + way, x.solvable(), row[8] == 1);
            }
        }
    }

    /** A spread of constraints of a kind, each with every assignment, against the model. */
    private static void everyAssignment(int kind) {
        Numbers numbers = new Numbers(1000 + kind);
        for (int n = 0; n < 60; n++) {
            int[] c = numbers.properConstraint(kind);
            for (int code = 0; code < 1296; code++) {
                int[] values = {code / 216, code / 36 % 6, code / 6 % 6, code % 6};
                DomainSolver x = Solvers.withValues(n % 3, values[0], values[1], values[2], values[3]);
                x.constraint(c[0], c[1], c[2], c[3]);
                checks.due(java.util.Arrays.toString(c) + " with " + java.util.Arrays.toString(values),
                    x.solvable(), Model.holds(c, values));
            }
        }
    }

    /** All constraints of a kind up to the greatest p, q and r, each alone. */
    private static void everyConstraint(int kind, int greatestP, int greatestQ, int greatestR) {
        for (int p = 0; p <= greatestP; p++) {
            for (int q = 0; q <= greatestQ; q++) {
                for (int r = 0; r <= greatestR; r++) {
                    int[] c = {kind, p, q, r};
                    int[] counts = countsByModel(c);
                    for (int way = 0; way <= 2; way++) {
                        compareCounts(way, c, counts);
                    }
                }
            }
        }
    }

    /** At 6 * v + value: how many assignments with that value of variable v it holds for. */
    private static int[] countsByModel(int[] c) {
        int[] counts = new int[24];
        for (int code = 0; code < 1296; code++) {
            int[] values = {code / 216, code / 36 % 6, code / 6 % 6, code % 6};
            if (Model.holds(c, values)) {
                for (int v = 0; v < 4; v++) {
                    counts[6 * v + values[v]]++;
                }
            }
        }
        return counts;
    }

    private static void compareCounts(int way, int[] c, int[] counts) {
        DomainSolver x = Solvers.inWay(way);
        x.constraint(c[0], c[1], c[2], c[3]);
        for (int i = 0; i < 24; i++) {
            checks.due(java.util.Arrays.toString(c) + " way " + way + " countWith(" + i / 6 + ", " + i % 6 + ")",
                x.countWith(i / 6, i % 6), counts[i]);
        }
    }
}
