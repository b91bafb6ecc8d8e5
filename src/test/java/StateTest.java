/** Promises 1 to 4 and 15: a new object, domain, constraint, drop, way. */
public final class StateTest {
    private static final int LOW = Solvers.LOW;
    private static final int HIGH = Solvers.HIGH;
    private static final Checks checks = new Checks();

    public static void main(String[] args) {
        newObject();
        domain();
        refusedDomain();
        constraintBounds();
        numbersWithoutPart();
        fullBeforeBad();
        drop();
        dropEachOfTen();
        way();
        checks.end();
    }

    private static void newObject() {
        DomainSolver x = new DomainSolver();
        checks.due("1: count()", x.count(), 1296);
        checks.due("1: solvable()", x.solvable(), true);
        for (int v = 0; v < 4; v++) {
            checks.due("1: possible(" + v + ")", x.possible(v), 63);
            checks.due("1: first(" + v + ")", x.first(v), 0);
        }
        checks.due("1: drop(0)", x.drop(0), DomainSolver.BAD);
        checks.due("1: blame()", x.blame(), 0);
        checks.due("1: constraint(2, 0, 0, 0)", x.constraint(2, 0, 0, 0), 1);
        DomainSolver other = new DomainSolver();
        checks.due("1: domain(0, 0)", x.domain(0, 0), true);
        checks.due("1: another object's count()", other.count(), 1296);
        checks.due("1: another object's drop(0)", other.drop(0), DomainSolver.BAD);
    }

    private static void domain() {
        for (int v = 0; v < 4; v++) {
            for (int set = 0; set <= 63; set++) {
                DomainSolver x = new DomainSolver();
                String call = "2: domain(" + v + ", " + set + ")";
                checks.due(call, x.domain(v, set), true);
                checks.due(call + " count()", x.count(), 216 * Integer.bitCount(set));
                checks.due(call + " possible(" + v + ")", x.possible(v), set);
                checks.due(call + " possible of the next", x.possible((v + 1) % 4), set == 0 ? 0 : 63);
            }
        }
        DomainSolver x = new DomainSolver();
        checks.due("2: domain(1, 0)", x.domain(1, 0), true);
        checks.due("2: domain(1, 36)", x.domain(1, 36), true);
        checks.due("2: set twice: possible(1)", x.possible(1), 36);
    }

    private static void refusedDomain() {
        int[][] wrong = {{-1, 0}, {4, 0}, {LOW, 1}, {HIGH, 1}, {0, -1}, {0, 64}, {3, LOW}, {3, HIGH}, {-1, 64}};
        DomainSolver x = new DomainSolver();
        for (int[] w : wrong) {
            checks.due("2: domain(" + w[0] + ", " + w[1] + ")", x.domain(w[0], w[1]), false);
        }
        checks.due("2: count() after refusals", x.count(), 1296);
    }

    /** For each kind the bounds of p, q and r: {kind, least p, greatest p, least q, ..}; LOW and HIGH where all goes. */
    private static void constraintBounds() {
        int[][] bounds = {
            {0, 0, 2400, -60, 60, LOW, HIGH},
            {1, 0, 2400, -60, 60, LOW, HIGH},
            {2, 0, 15, LOW, HIGH, LOW, HIGH},
            {3, 0, 3, 0, 3, 0, 46655},
            {4, 0, 3, 0, 3, 0, 3},
            {5, 0, 23, 0, 23, LOW, HIGH},
            {6, 0, 3, 0, 3, 0, 5},
            {7, 0, 15, 0, 4, 0, 5},
            {8, 0, 3, 0, 3, 0, 15},
        };
        for (int[] b : bounds) {
            for (int which = 1; which <= 5; which += 2) {
                int[] call = {b[0], b[1], b[3], b[5]};
                int place = (which + 1) / 2;
                oneConstraint(call, place, b[which], 1);
                oneConstraint(call, place, b[which + 1], 1);
                if (b[which] != LOW) {
                    oneConstraint(call, place, b[which] - 1, DomainSolver.BAD);
                    oneConstraint(call, place, b[which + 1] + 1, DomainSolver.BAD);
                    oneConstraint(call, place, LOW, DomainSolver.BAD);
                    oneConstraint(call, place, HIGH, DomainSolver.BAD);
                }
            }
        }
        int[] proper = {0, 0, 0, 0};
        for (int kind : new int[] {-1, 9, LOW, HIGH}) {
            oneConstraint(proper, 0, kind, DomainSolver.BAD);
        }
    }

    private static void oneConstraint(int[] call, int place, int number, int due) {
        int[] c = call.clone();
        c[place] = number;
        DomainSolver x = new DomainSolver();
        String text = "3: constraint(" + c[0] + ", " + c[1] + ", " + c[2] + ", " + c[3] + ")";
        checks.due(text, x.constraint(c[0], c[1], c[2], c[3]), due);
        if (due == DomainSolver.BAD) {
            checks.due(text + " count()", x.count(), 1296);
            checks.due(text + " drop(0)", x.drop(0), DomainSolver.BAD);
        } else {
            // Whatever plays no part must not make a later call fail.
            checks.due(text + " solvable or blamed", x.solvable() || x.blame() == 1, true);
            checks.due(text + " drop(0)", x.drop(0), 0);
        }
    }

    private static void numbersWithoutPart() {
        for (int number : new int[] {LOW, -1, 0, 7, HIGH}) {
            for (int way = 0; way <= 2; way++) {
                checks.due("3: kind 0 with r " + number, countOf(way, 0, 2400, 20, number), countOf(2, 0, 2400, 20, 0));
                checks.due("3: kind 1 with r " + number, countOf(way, 1, 2400, 21, number), countOf(2, 1, 2400, 21, 0));
                checks.due("3: kind 2 with q " + number, countOf(way, 2, 15, number, 0), 360);
                checks.due("3: kind 2 with r " + number, countOf(way, 2, 15, 0, number), 360);
                checks.due("3: kind 5 with r " + number, countOf(way, 5, 8, 20, number), countOf(2, 5, 8, 20, 0));
            }
        }
    }

    private static int countOf(int way, int kind, int p, int q, int r) {
        DomainSolver x = new DomainSolver();
        x.way(way);
        x.constraint(kind, p, q, r);
        return x.count();
    }

    private static void fullBeforeBad() {
        DomainSolver x = new DomainSolver();
        for (int n = 1; n <= 10; n++) {
            checks.due("3: BAD before it is full", x.constraint(9, 0, 0, 0), DomainSolver.BAD);
            checks.due("3: constraint number " + n, x.constraint(6, 0, 1, 1), n);
        }
        checks.due("3: the eleventh", x.constraint(7, 0, 1, 0), DomainSolver.FULL);
        checks.due("3: FULL before BAD for kind", x.constraint(9, 0, 0, 0), DomainSolver.FULL);
        checks.due("3: FULL before BAD for p", x.constraint(0, -1, 0, 0), DomainSolver.FULL);
        checks.due("3: count() after FULL", x.count(), 1080);
        checks.due("3: drop(10)", x.drop(10), DomainSolver.BAD);
        checks.due("3: drop(4)", x.drop(4), 9);
        checks.due("3: BAD again", x.constraint(9, 0, 0, 0), DomainSolver.BAD);
        checks.due("3: room again", x.constraint(7, 15, 0, 5), 10);
        checks.due("3: count() with the new one", x.count(), 5 * 4 * 5 * 5);
    }

    private static void drop() {
        DomainSolver x = new DomainSolver();
        x.constraint(7, 1, 1, 3);
        x.constraint(7, 2, 1, 4);
        x.constraint(7, 4, 1, 5);
        checks.due("4: drop(-1)", x.drop(-1), DomainSolver.BAD);
        checks.due("4: drop(3)", x.drop(3), DomainSolver.BAD);
        checks.due("4: drop(LOW)", x.drop(LOW), DomainSolver.BAD);
        checks.due("4: drop(HIGH)", x.drop(HIGH), DomainSolver.BAD);
        checks.due("4: count() with all", x.count(), 6);
        checks.due("4: drop(1)", x.drop(1), 2);
        checks.due("4: possible(0)", x.possible(0), 8);
        checks.due("4: possible(1)", x.possible(1), 63);
        checks.due("4: possible(2)", x.possible(2), 32);
        checks.due("4: drop(2)", x.drop(2), DomainSolver.BAD);
        checks.due("4: drop(1), the one moved down", x.drop(1), 1);
        checks.due("4: possible(0)", x.possible(0), 8);
        checks.due("4: possible(2)", x.possible(2), 63);
        checks.due("4: drop(0)", x.drop(0), 0);
        checks.due("4: count() without any", x.count(), 1296);
        checks.due("4: drop(0) once more", x.drop(0), DomainSolver.BAD);
    }

    /** Ten different constraints of which the one that can't hold shows where each has gone. */
    private static void dropEachOfTen() {
        for (int impossible = 0; impossible < 10; impossible++) {
            for (int i = 0; i < 10; i++) {
                DomainSolver x = new DomainSolver();
                for (int k = 0; k < 10; k++) {
                    int kind = k == impossible ? 7 : 2;
                    x.constraint(kind, 0, 1, 0);
                }
                int place = impossible > i ? impossible - 1 : impossible;
                checks.due("4: drop(" + i + ") of ten", x.drop(i), 9);
                checks.due("4: blame() after drop(" + i + ")", x.blame(), i == impossible ? 0 : 1 << place);
            }
        }
    }

    private static void way() {
        DomainSolver x = new DomainSolver();
        x.domain(1, 22);
        x.constraint(4, 0, 1, 2);
        x.constraint(8, 3, 1, 6);
        int count = x.count();
        for (int k : new int[] {0, 1, 2, 1, 0, -1, 3, LOW, HIGH}) {
            checks.due("15: way(" + k + ")", x.way(k), k >= 0 && k <= 2);
            checks.due("15: count() after way(" + k + ")", x.count(), count);
        }
        checks.due("15: drop(1) after way", x.drop(1), 1);
        checks.due("15: possible(1) after way", x.possible(1), 22);
    }
}
