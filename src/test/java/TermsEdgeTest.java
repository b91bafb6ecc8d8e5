/** The document's 'Terms': a test for each sentence that names a bound or a boundary case. */
public final class TermsEdgeTest {
    private static final int LOW = Solvers.LOW;
    private static final int HIGH = Solvers.HIGH;
    private static final int BAD = DomainSolver.BAD;
    private static final Checks checks = new Checks();

    public static void main(String[] args) {
        for (int way = 0; way <= 2; way++) {
            variables(way);
            bitsOfDomain(way);
            emptyDomain(way);
            tenConstraints(way);
            solutionNeedsAll(way);
            noConstraints(way);
            orderOfAssignments(way);
            digitsOfWeighting(way);
            smallestAndGreatestSum(way);
            sumOfFour(way);
            boundsOfKinds(way);
            sumAtMost(way);
            sumEqual(way);
            different(way);
            digit(way);
            product(way);
            exactlyIf(way);
            exactlyIfOfEach(way);
            differBy(way);
            justSoMany(way);
            lessOrEqual(way);
            lessOrEqualOfEach(way);
        }
        checks.end();
    }

    private static void variables(int way) {
        checks.sentence("There are 4 VARIABLES, 0 to 3");
        DomainSolver x = Solvers.inWay(way);
        for (int v = -1; v <= 4; v++) {
            boolean there = v >= 0 && v <= 3;
            checks.due("domain(" + v + ", 36)", x.domain(v, 36), there);
            checks.due("first(" + v + ")", x.first(v), there ? 2 : BAD);
            checks.due("possible(" + v + ")", x.possible(v), there ? 36 : BAD);
        }
        checks.due("count()", x.count(), 2 * 2 * 2 * 2);
    }

    private static void bitsOfDomain(int way) {
        checks.sentence("a set of values among 0 to 5, written as a number whose bit v speaks of value v");
        for (int v = 0; v < 4; v++) {
            for (int value = 0; value < 6; value++) {
                DomainSolver x = Solvers.inWay(way);
                x.domain(v, 1 << value);
                checks.due("first(" + v + ")", x.first(v), value);
                checks.due("countWith(" + v + ", " + value + ")", x.countWith(v, value), 216);
                x.domain(v, 63 - (1 << value));
                checks.due("countWith(" + v + ", " + value + ") without it", x.countWith(v, value), 0);
                checks.due("count() without " + value, x.count(), 5 * 216);
            }
        }
    }

    private static void emptyDomain(int way) {
        checks.sentence("it may be empty");
        for (int v = 0; v < 4; v++) {
            DomainSolver x = Solvers.inWay(way);
            checks.due("domain(" + v + ", 0)", x.domain(v, 0), true);
            checks.due("solvable()", x.solvable(), false);
            checks.due("count()", x.count(), 0);
            checks.due("possible of another", x.possible((v + 1) % 4), 0);
        }
        DomainSolver x = Solvers.inWay(way);
        for (int v = 0; v < 4; v++) {
            x.domain(v, 0);
        }
        checks.due("solvable() with all empty", x.solvable(), false);
        checks.due("blame() with all empty", x.blame(), 0);
    }

    private static void tenConstraints(int way) {
        checks.sentence("There are up to 10 CONSTRAINTS, numbered from 0");
        DomainSolver x = Solvers.inWay(way);
        for (int i = 0; i < 9; i++) {
            x.constraint(2, 0, 0, 0);
        }
        checks.due("the tenth", x.constraint(7, 0, 1, 0), 10);
        checks.due("the eleventh", x.constraint(7, 0, 1, 0), DomainSolver.FULL);
        checks.due("blame()", x.blame(), 1 << 9);
        checks.due("needless(0)", x.needless(0), true);
        checks.due("needless(9)", x.needless(9), false);
        checks.due("drop(9)", x.drop(9), 9);
        checks.due("drop(0)", x.drop(0), 8);
    }

    /** Ten that hold for the assignment but for one, which is each of them in turn. */
    private static void solutionNeedsAll(int way) {
        checks.sentence("a SOLUTION is an assignment for which all of them hold");
        for (int fails = -1; fails < 10; fails++) {
            DomainSolver x = Solvers.withValues(way, 0, 5, 3, 3);
            for (int i = 0; i < 10; i++) {
                x.constraint(7, 0b1100, i == fails ? 1 : 2, 3);
            }
            checks.due("solvable() with " + fails + " failing", x.solvable(), fails < 0);
        }
    }

    private static void noConstraints(int way) {
        checks.sentence("a SOLUTION is an assignment for which all of them hold (of none)");
        checks.due("count()", Solvers.inWay(way).count(), 1296);
        checks.due("count() of one assignment", Solvers.withValues(way, 0, 5, 0, 5).count(), 1);
    }

    /** Two solutions that differ from variable v on, where the one with the smaller value at v has greater ones later. */
    private static void orderOfAssignments(int way) {
        checks.sentence("Assignments are ordered by the value of variable 0, then 1, and so on, the smaller first");
        for (int v = 0; v < 4; v++) {
            DomainSolver x = Solvers.inWay(way);
            for (int w = 0; w < 4; w++) {
                x.domain(w, w < v ? 1 << 2 : 1 << 0 | 1 << 5);
            }
            for (int w = v + 1; w < 4; w++) {
                x.constraint(2, 1 << v | 1 << w, 0, 0);
            }
            checks.due("count() of two from " + v, x.count(), 2);
            for (int w = 0; w < 4; w++) {
                int due = w < v ? 2 : w == v ? 0 : 5;
                checks.due("first(" + w + ") of two from " + v, x.first(w), due);
            }
        }
    }

    private static void digitsOfWeighting(int way) {
        checks.sentence("each weight from -3 to 3 plus 3 is a digit to base 7, that of variable 0 the lowest");
        int place = 1;
        for (int v = 0; v < 4; v++) {
            DomainSolver x = Solvers.withValues(way, 0, 0, 0, 0);
            x.domain(v, 1 << 5);
            for (int weight = -3; weight <= 3; weight++) {
                int weighting = 1200 + weight * place;
                checks.due("least(" + weighting + ")", x.least(weighting), 5 * weight);
            }
            place *= 7;
        }
    }

    private static void smallestAndGreatestSum(int way) {
        checks.sentence("(0 to 2400)");
        DomainSolver x = Solvers.withValues(way, 5, 5, 5, 5);
        checks.due("least(0)", x.least(0), -60);
        checks.due("least(2400)", x.least(2400), 60);
        checks.due("least(-1)", x.least(-1), BAD);
        checks.due("least(2401)", x.least(2401), BAD);
    }

    private static void sumOfFour(int way) {
        checks.sentence("the SUM of an assignment under it is the sum of weight times value");
        DomainSolver x = Solvers.withValues(way, 1, 2, 3, 5);
        checks.due("3, -1, 2, -3", x.least(Solvers.weighting(3, -1, 2, -3)), 3 - 2 + 6 - 15);
        checks.due("-3, 3, 0, 1", x.least(Solvers.weighting(-3, 3, 0, 1)), -3 + 6 + 5);
        checks.due("0, 0, 0, 0", x.least(Solvers.weighting(0, 0, 0, 0)), 0);
    }

    private static void boundsOfKinds(int way) {
        bounds(way, "0: the weighting p (0 to 2400)", 0, 1, 0, 2400);
        bounds(way, "0: q from -60 to 60", 0, 2, -60, 60);
        bounds(way, "1: the weighting p (0 to 2400)", 1, 1, 0, 2400);
        bounds(way, "1: q from -60 to 60", 1, 2, -60, 60);
        bounds(way, "2: the set p (bits 0 to 3)", 2, 1, 0, 15);
        bounds(way, "3: variable p (0 to 3)", 3, 1, 0, 3);
        bounds(way, "3: variable q, 0 to 3", 3, 2, 0, 3);
        bounds(way, "3: r, a number to base 6 (0 to 46655)", 3, 3, 0, 46655);
        bounds(way, "4: variable p (0 to 3 both)", 4, 1, 0, 3);
        bounds(way, "4: variable q (0 to 3 both)", 4, 2, 0, 3);
        bounds(way, "4: variable r (0 to 3)", 4, 3, 0, 3);
        bounds(way, "5: p from 0 to 23", 5, 1, 0, 23);
        bounds(way, "5: q from 0 to 23", 5, 2, 0, 23);
        bounds(way, "6: variable p (0 to 3 both)", 6, 1, 0, 3);
        bounds(way, "6: variable q (0 to 3 both)", 6, 2, 0, 3);
        bounds(way, "6: r from 0 to 5", 6, 3, 0, 5);
        bounds(way, "7: the set p (bits 0 to 3)", 7, 1, 0, 15);
        bounds(way, "7: just q (0 to 4)", 7, 2, 0, 4);
        bounds(way, "7: the value r (0 to 5)", 7, 3, 0, 5);
        bounds(way, "8: p from 0 to 3", 8, 1, 0, 3);
        bounds(way, "8: q from 0 to 3", 8, 2, 0, 3);
        bounds(way, "8: r from 0 to 15", 8, 3, 0, 15);
    }

    /** The number at a place (1 is p, 2 is q, 3 is r) may be as small as low and as great as high. */
    private static void bounds(int way, String sentence, int kind, int place, int low, int high) {
        checks.sentence(sentence);
        for (int number : new int[] {low, high}) {
            DomainSolver x = Solvers.inWay(way);
            checks.due("with " + number, add(x, kind, place, number), 1);
            checks.due("drop(0) with " + number, x.drop(0), 0);
        }
        DomainSolver x = Solvers.inWay(way);
        for (int number : new int[] {low - 1, high + 1, LOW, HIGH}) {
            checks.due("with " + number, add(x, kind, place, number), BAD);
        }
        checks.due("count() after BAD", x.count(), 1296);
        checks.due("drop(0) after BAD", x.drop(0), BAD);
    }

    private static int add(DomainSolver x, int kind, int place, int number) {
        int[] c = {kind, 0, 0, 0};
        c[place] = number;
        return x.constraint(c[0], c[1], c[2], c[3]);
    }

    /** Whether {kind, p, q, r} holds for values written as four decimal digits, that of variable 0 first. */
    private static void holds(int way, int[] c, int values, boolean due) {
        int[] v = {values / 1000, values / 100 % 10, values / 10 % 10, values % 10};
        DomainSolver x = Solvers.withValues(way, v[0], v[1], v[2], v[3]);
        checks.due(java.util.Arrays.toString(c) + " added", x.constraint(c[0], c[1], c[2], c[3]), 1);
        checks.due(java.util.Arrays.toString(c) + " with " + values, x.solvable(), due);
    }

    private static void sumAtMost(int way) {
        checks.sentence("0: the sum under the weighting p is at most q");
        int p = Solvers.weighting(1, 0, 0, -1);
        holds(way, new int[] {0, p, 0, 0}, 3552, false);
        holds(way, new int[] {0, p, 0, 0}, 3553, true);
        holds(way, new int[] {0, p, 0, 0}, 3554, true);
        holds(way, new int[] {0, 0, -60, 0}, 5555, true);
        holds(way, new int[] {0, 0, -60, 0}, 5545, false);
        holds(way, new int[] {0, 2400, 60, 0}, 5555, true);
        holds(way, new int[] {0, 2400, 59, 0}, 5555, false);
        holds(way, new int[] {0, 1200, 0, 0}, 5555, true);
        holds(way, new int[] {0, 1200, -1, 0}, 0, false);
    }

    private static void sumEqual(int way) {
        checks.sentence("1: it is equal to q");
        int p = Solvers.weighting(0, 1, -1, 0);
        holds(way, new int[] {1, p, -1, 0}, 5135, false);
        holds(way, new int[] {1, p, -1, 0}, 5235, true);
        holds(way, new int[] {1, p, -1, 0}, 5335, false);
        holds(way, new int[] {1, 0, -60, 0}, 5555, true);
        holds(way, new int[] {1, 0, -59, 0}, 5555, false);
        holds(way, new int[] {1, 2400, 60, 0}, 5555, true);
        holds(way, new int[] {1, 2400, 0, 0}, 0, true);
        holds(way, new int[] {1, 2400, 60, 0}, 5554, false);
    }

    private static void different(int way) {
        checks.sentence("2: the variables of the set p (bits 0 to 3) have different values");
        holds(way, new int[] {2, 0, 0, 0}, 3333, true);
        for (int v = 0; v < 4; v++) {
            holds(way, new int[] {2, 1 << v, 0, 0}, 3333, true);
        }
        holds(way, new int[] {2, 15, 0, 0}, 5034, true);
        holds(way, new int[] {2, 15, 0, 0}, 5035, false);
        holds(way, new int[] {2, 15, 0, 0}, 5334, false);
        holds(way, new int[] {2, 0b1001, 0, 0}, 5225, false);
        holds(way, new int[] {2, 0b0110, 0, 0}, 5125, true);
        holds(way, new int[] {2, 0b0110, 0, 0}, 5005, false);
    }

    /** 38881 is 500001 to base 6, 46655 is 555555. */
    private static void digit(int way) {
        checks.sentence("3: variable p has the value that is digit number (value of variable q) of r, the lowest being number 0");
        holds(way, new int[] {3, 0, 3, 38881}, 1220, true);
        holds(way, new int[] {3, 0, 3, 38881}, 5220, false);
        holds(way, new int[] {3, 0, 3, 38881}, 221, true);
        holds(way, new int[] {3, 0, 3, 38881}, 224, true);
        holds(way, new int[] {3, 0, 3, 38881}, 5225, true);
        holds(way, new int[] {3, 0, 3, 38881}, 1225, false);
        holds(way, new int[] {3, 3, 0, 46655}, 5005, true);
        holds(way, new int[] {3, 3, 0, 46655}, 5004, false);
        holds(way, new int[] {3, 3, 0, 0}, 5000, true);
        holds(way, new int[] {3, 3, 0, 0}, 5001, false);
        // One variable for both: 38881 has the digit 5 at number 5, but 1 at number 0.
        holds(way, new int[] {3, 1, 1, 38881}, 2522, true);
        holds(way, new int[] {3, 1, 1, 38881}, 2022, false);
    }

    private static void product(int way) {
        checks.sentence("4: the value of variable p times that of variable q is that of variable r");
        holds(way, new int[] {4, 0, 3, 1}, 1505, true);
        holds(way, new int[] {4, 0, 3, 1}, 5501, true);
        holds(way, new int[] {4, 0, 3, 1}, 5505, false);
        holds(way, new int[] {4, 0, 3, 1}, 5000, true);
        holds(way, new int[] {4, 0, 3, 1}, 5500, false);
        // 2 times 3 is 6, which no variable can be, nor is it 0.
        holds(way, new int[] {4, 0, 3, 1}, 2003, false);
        holds(way, new int[] {4, 2, 2, 2}, 5505, true);
        holds(way, new int[] {4, 2, 2, 2}, 5515, true);
        holds(way, new int[] {4, 2, 2, 2}, 5525, false);
        holds(way, new int[] {4, 3, 3, 0}, 4552, true);
        holds(way, new int[] {4, 0, 3, 3}, 1005, true);
        holds(way, new int[] {4, 0, 3, 3}, 2005, false);
    }

    private static void exactlyIf(int way) {
        checks.sentence("5: variable p / 6 has the value p % 6 exactly if variable q / 6 has at least the value q % 6");
        holds(way, new int[] {5, 0, 23, 0}, 115, true);
        holds(way, new int[] {5, 0, 23, 0}, 5115, false);
        holds(way, new int[] {5, 0, 23, 0}, 114, false);
        holds(way, new int[] {5, 0, 23, 0}, 5114, true);
        holds(way, new int[] {5, 0, 23, 0}, 1115, false);
        holds(way, new int[] {5, 23, 3, 0}, 3005, true);
        holds(way, new int[] {5, 23, 3, 0}, 4005, true);
        holds(way, new int[] {5, 23, 3, 0}, 2005, false);
        holds(way, new int[] {5, 23, 3, 0}, 2004, true);
        holds(way, new int[] {5, 23, 3, 0}, 3004, false);
        // At least 0 is always so.
        holds(way, new int[] {5, 5, 18, 0}, 5000, true);
        holds(way, new int[] {5, 5, 18, 0}, 4000, false);
        // One variable for both: 5 exactly if at least 5 always, 0 exactly if at least 0 only for 0.
        holds(way, new int[] {5, 23, 23, 0}, 5, true);
        holds(way, new int[] {5, 23, 23, 0}, 4, true);
        holds(way, new int[] {5, 0, 0, 0}, 0, true);
        holds(way, new int[] {5, 0, 0, 0}, 1000, false);
    }

    /** Variable 0 (or, for itself, variable 1) has the value 5 throughout, so that "exactly if" asks for the other side. */
    private static void exactlyIfOfEach(int way) {
        checks.sentence("5: variable p / 6 (p from 0 to 23), the value p % 6; variable q / 6 (q from 0 to 23), the value q % 6");
        for (int pair = 0; pair <= 23; pair++) {
            int v = pair / 6;
            int other = v == 0 ? 1 : 0;
            DomainSolver x = Solvers.inWay(way);
            x.domain(other, 1 << 5);
            x.constraint(5, pair, other * 6, 0);
            checks.due("possible(" + v + ") with p " + pair, x.possible(v), 1 << pair % 6);
            x.drop(0);
            x.constraint(5, other * 6 + 5, pair, 0);
            checks.due("possible(" + v + ") with q " + pair, x.possible(v), 63 & 63 << pair % 6);
        }
    }

    private static void differBy(int way) {
        checks.sentence("6: the values of variables p and q differ by at least r");
        holds(way, new int[] {6, 0, 3, 2}, 3001, true);
        holds(way, new int[] {6, 0, 3, 2}, 1003, true);
        holds(way, new int[] {6, 0, 3, 2}, 2003, false);
        holds(way, new int[] {6, 0, 3, 2}, 3002, false);
        holds(way, new int[] {6, 0, 3, 0}, 3003, true);
        holds(way, new int[] {6, 0, 3, 5}, 5000, true);
        holds(way, new int[] {6, 0, 3, 5}, 5, true);
        holds(way, new int[] {6, 0, 3, 5}, 1005, false);
        holds(way, new int[] {6, 2, 2, 0}, 5050, true);
        holds(way, new int[] {6, 2, 2, 1}, 5050, false);
    }

    private static void justSoMany(int way) {
        checks.sentence("7: just q (0 to 4) variables of the set p (bits 0 to 3) have the value r (0 to 5)");
        holds(way, new int[] {7, 15, 4, 0}, 0, true);
        holds(way, new int[] {7, 15, 4, 5}, 5555, true);
        holds(way, new int[] {7, 15, 4, 5}, 5550, false);
        holds(way, new int[] {7, 15, 3, 5}, 5555, false);
        holds(way, new int[] {7, 15, 3, 5}, 555, true);
        holds(way, new int[] {7, 15, 0, 5}, 4321, true);
        holds(way, new int[] {7, 15, 0, 5}, 4325, false);
        holds(way, new int[] {7, 0b1001, 1, 2}, 2220, true);
        holds(way, new int[] {7, 0b1001, 1, 2}, 2222, false);
        holds(way, new int[] {7, 0, 0, 2}, 2222, true);
        holds(way, new int[] {7, 0, 1, 2}, 2222, false);
        holds(way, new int[] {7, 7, 4, 2}, 2222, false);
    }

    private static void lessOrEqual(int way) {
        checks.sentence("8: the value of p is less than that of q, or it is equal and that of r % 4 is at most that of r / 4");
        // r = 9: variable 1 at most variable 2.
        holds(way, new int[] {8, 0, 3, 9}, 1502, true);
        holds(way, new int[] {8, 0, 3, 9}, 2051, false);
        holds(way, new int[] {8, 0, 3, 9}, 2442, true);
        holds(way, new int[] {8, 0, 3, 9}, 2342, true);
        holds(way, new int[] {8, 0, 3, 9}, 2432, false);
        // r = 0 and r = 15: a variable is at most itself.
        holds(way, new int[] {8, 0, 3, 0}, 2552, true);
        holds(way, new int[] {8, 0, 3, 15}, 2002, true);
        holds(way, new int[] {8, 0, 3, 15}, 3002, false);
        // r = 3 and r = 12 turn variables 3 and 0 about.
        holds(way, new int[] {8, 1, 2, 3}, 1000, true);
        holds(way, new int[] {8, 1, 2, 3}, 1, false);
        holds(way, new int[] {8, 1, 2, 12}, 1000, false);
        holds(way, new int[] {8, 1, 2, 12}, 1, true);
        // One variable for p and q: always equal.
        holds(way, new int[] {8, 2, 2, 9}, 520, false);
        holds(way, new int[] {8, 2, 2, 9}, 550, true);
        holds(way, new int[] {8, 2, 2, 9}, 50, true);
    }

    /** A variable is never less than itself, so with p = q all is left to r. */
    private static void lessOrEqualOfEach(int way) {
        checks.sentence("8: p, q from 0 to 3, r from 0 to 15");
        for (int r = 0; r <= 15; r++) {
            int smaller = r % 4;
            int greater = r / 4;
            for (int p = 0; p < 4; p++) {
                DomainSolver x = Solvers.inWay(way);
                x.constraint(8, p, p, r);
                String call = "constraint(8, " + p + ", " + p + ", " + r + ")";
                checks.due(call + " count()", x.count(), smaller == greater ? 1296 : 21 * 36);
                checks.due(call + " 5 at the smaller", x.countWith(smaller, 5), smaller == greater ? 216 : 36);
                checks.due(call + " 0 at the greater", x.countWith(greater, 0), smaller == greater ? 216 : 36);
            }
        }
    }
}
