/** Promises 1 to 4 and 15, and how long an object is used: a test for each sentence that names a boundary case. */
public final class ChangeEdgeTest {
    private static final int LOW = Solvers.LOW;
    private static final int HIGH = Solvers.HIGH;
    private static final int BAD = DomainSolver.BAD;
    private static final int FULL = DomainSolver.FULL;
    private static final int[] NO_VARIABLES = {-1, 4, -4, 31, 32, LOW, HIGH};
    private static final Checks checks = new Checks();

    public static void main(String[] args) {
        newObjectHasAllValues();
        newObjectHasNoConstraints();
        newObjectHasWayTwo();
        for (int way = 0; way <= 2; way++) {
            domainOfNoVariable(way);
            domainTooSmallOrTooLarge(way);
            domainWithBothWrong(way);
            domainAtItsEdges(way);
            domainIsSetAnew(way);
            tenthAndEleventhConstraint(way);
            fullBeforeBad(way);
            badUntilFull(way);
            kindTooSmallOrTooLarge(way);
            badConstraintIsNotAdded(way);
            rWithoutPart(way, "r plays no part in kind 0", 0, 2400, 20);
            rWithoutPart(way, "r plays no part in kind 1", 1, 2400, 21);
            rWithoutPart(way, "r plays no part in kind 2", 2, 15, 0);
            rWithoutPart(way, "r plays no part in kind 5", 5, 8, 20);
            qWithoutPart(way);
            numberOfConstraints(way);
            dropOfNone(way);
            dropFromEmpty(way);
            dropFirst(way);
            dropLast(way);
            dropMiddle(way);
            dropMovesLaterOnes(way);
            dropFromFull(way);
            numberLeft(way);
            wayTooSmallOrTooLarge(way);
            wayAtItsEdges(way);
            wayShowsInNoAnswer(way);
            lastOf512Calls(way);
        }
        checks.end();
    }

    private static void newObjectHasAllValues() {
        checks.sentence("1: All domains have all six values");
        DomainSolver x = new DomainSolver();
        for (int v = 0; v < 4; v++) {
            checks.due("possible(" + v + ")", x.possible(v), 63);
            checks.due("countWith(" + v + ", 0)", x.countWith(v, 0), 216);
            checks.due("countWith(" + v + ", 5)", x.countWith(v, 5), 216);
        }
    }

    private static void newObjectHasNoConstraints() {
        checks.sentence("1: no constraints");
        DomainSolver x = new DomainSolver();
        checks.due("count()", x.count(), 1296);
        checks.due("needless(0)", x.needless(0), false);
        checks.due("drop(0)", x.drop(0), BAD);
        checks.due("constraint(2, 0, 0, 0)", x.constraint(2, 0, 0, 0), 1);
        checks.due("count() of an object made later", new DomainSolver().count(), 1296);
        checks.due("drop(0) of an object made later", new DomainSolver().drop(0), BAD);
    }

    /** The way shows in no answer, so no more can be seen than that a new object answers as one in way 2. */
    private static void newObjectHasWayTwo() {
        checks.sentence("1: the way is 2");
        checks.same("new", new DomainSolver(), Solvers.inWay(2));
    }

    private static void domainOfNoVariable(int way) {
        checks.sentence("2: v outside 0..3: refused, answers false");
        DomainSolver x = Solvers.mixed(way);
        for (int v : NO_VARIABLES) {
            for (int set : new int[] {0, 1, 63}) {
                checks.due("domain(" + v + ", " + set + ")", x.domain(v, set), false);
            }
        }
        checks.same("after refusals", x, Solvers.mixed(way));
    }

    private static void domainTooSmallOrTooLarge(int way) {
        checks.sentence("2: set outside 0..63: refused, answers false");
        DomainSolver x = Solvers.mixed(way);
        for (int set : new int[] {-1, 64, -64, 127, LOW, HIGH}) {
            for (int v = 0; v < 4; v++) {
                checks.due("domain(" + v + ", " + set + ")", x.domain(v, set), false);
            }
        }
        checks.same("after refusals", x, Solvers.mixed(way));
    }

    private static void domainWithBothWrong(int way) {
        checks.sentence("2: v outside 0..3 or set outside 0..63: refused, answers false");
        DomainSolver x = Solvers.mixed(way);
        checks.due("domain(-1, -1)", x.domain(-1, -1), false);
        checks.due("domain(4, 64)", x.domain(4, 64), false);
        checks.due("domain(LOW, HIGH)", x.domain(LOW, HIGH), false);
        checks.same("after refusals", x, Solvers.mixed(way));
    }

    private static void domainAtItsEdges(int way) {
        checks.sentence("2: Else true");
        for (int v : new int[] {0, 3}) {
            DomainSolver x = Solvers.inWay(way);
            checks.due("domain(" + v + ", 0)", x.domain(v, 0), true);
            checks.due("possible(" + v + ") after 0", x.possible(v), 0);
            checks.due("domain(" + v + ", 63)", x.domain(v, 63), true);
            checks.due("possible(" + v + ") after 63", x.possible(v), 63);
            checks.due("domain(" + v + ", 1)", x.domain(v, 1), true);
            checks.due("possible(" + v + ") after 1", x.possible(v), 1);
            checks.due("domain(" + v + ", 32)", x.domain(v, 32), true);
            checks.due("possible(" + v + ") after 32", x.possible(v), 32);
        }
    }

    private static void domainIsSetAnew(int way) {
        checks.sentence("2: Sets a domain");
        DomainSolver x = Solvers.inWay(way);
        x.domain(1, 0b000011);
        x.domain(1, 0b111000);
        checks.due("possible(1)", x.possible(1), 0b111000);
        checks.due("possible(0)", x.possible(0), 63);
        checks.due("possible(2)", x.possible(2), 63);
        checks.due("count()", x.count(), 3 * 216);
    }

    /** Nine that always hold. */
    private static DomainSolver withNine(int way) {
        DomainSolver x = Solvers.inWay(way);
        for (int n = 0; n < 9; n++) {
            x.constraint(2, 0, 0, 0);
        }
        return x;
    }

    private static DomainSolver withTen(int way) {
        DomainSolver x = withNine(way);
        x.constraint(7, 1, 1, 4);
        return x;
    }

    private static void tenthAndEleventhConstraint(int way) {
        checks.sentence("3: 10 are there: FULL");
        DomainSolver x = withNine(way);
        checks.due("the tenth", x.constraint(7, 1, 1, 4), 10);
        checks.due("possible(0) with the tenth", x.possible(0), 1 << 4);
        checks.due("the eleventh", x.constraint(7, 0, 1, 0), FULL);
        checks.due("the eleventh once more", x.constraint(2, 0, 0, 0), FULL);
        checks.same("after FULL", x, withTen(way));
        checks.due("drop(10) after FULL", x.drop(10), BAD);
        checks.due("drop(0) after FULL", x.drop(0), 9);
        checks.due("room again", x.constraint(2, 0, 0, 0), 10);
        checks.due("no room again", x.constraint(2, 0, 0, 0), FULL);
    }

    private static void fullBeforeBad(int way) {
        checks.sentence("3: Tested in this order: 10 are there: FULL; ..: BAD");
        DomainSolver x = withTen(way);
        checks.due("kind -1", x.constraint(-1, 0, 0, 0), FULL);
        checks.due("kind 9", x.constraint(9, 0, 0, 0), FULL);
        checks.due("p -1", x.constraint(0, -1, 0, 0), FULL);
        checks.due("q 61", x.constraint(0, 0, 61, 0), FULL);
        checks.due("r 46656", x.constraint(3, 0, 0, 46656), FULL);
        checks.same("after FULL", x, withTen(way));
    }

    private static void badUntilFull(int way) {
        checks.sentence("3: up to nine there: BAD, not FULL");
        DomainSolver x = withNine(way);
        checks.due("kind 9", x.constraint(9, 0, 0, 0), BAD);
        checks.due("p 4", x.constraint(4, 4, 0, 0), BAD);
        checks.due("the tenth", x.constraint(2, 0, 0, 0), 10);
    }

    private static void kindTooSmallOrTooLarge(int way) {
        checks.sentence("3: kind outside 0..8: BAD");
        DomainSolver x = Solvers.mixed(way);
        for (int kind : new int[] {-1, 9, -8, 16, LOW, HIGH}) {
            checks.due("constraint(" + kind + ", 0, 0, 0)", x.constraint(kind, 0, 0, 0), BAD);
        }
        checks.same("after BAD", x, Solvers.mixed(way));
        checks.due("kind 0", x.constraint(0, 0, 0, 0), 4);
        checks.due("kind 8", x.constraint(8, 0, 0, 0), 5);
    }

    private static void badConstraintIsNotAdded(int way) {
        checks.sentence("3: p, q or r not as it must be: BAD");
        DomainSolver x = Solvers.mixed(way);
        checks.due("p", x.constraint(6, 4, 0, 0), BAD);
        checks.due("q", x.constraint(6, 0, -1, 0), BAD);
        checks.due("r", x.constraint(6, 0, 0, 6), BAD);
        checks.due("all three", x.constraint(6, -1, 4, -1), BAD);
        checks.same("after BAD", x, Solvers.mixed(way));
        checks.due("drop(3) after BAD", x.drop(3), BAD);
        checks.due("the next one", x.constraint(6, 0, 0, 0), 4);
    }

    private static void rWithoutPart(int way, String sentence, int kind, int p, int q) {
        checks.sentence("3: " + sentence);
        DomainSolver same = Solvers.inWay(way);
        same.constraint(kind, p, q, 0);
        for (int r : new int[] {LOW, -1, 3, 46656, HIGH}) {
            DomainSolver x = Solvers.inWay(way);
            checks.due("r " + r, x.constraint(kind, p, q, r), 1);
            checks.same("r " + r, x, same);
        }
    }

    private static void qWithoutPart(int way) {
        checks.sentence("3: q plays no part in kind 2");
        DomainSolver same = Solvers.inWay(way);
        same.constraint(2, 0b1011, 0, 0);
        for (int q : new int[] {LOW, -61, -1, 4, 61, HIGH}) {
            DomainSolver x = Solvers.inWay(way);
            checks.due("q " + q, x.constraint(2, 0b1011, q, q), 1);
            checks.same("q " + q, x, same);
        }
    }

    private static void numberOfConstraints(int way) {
        checks.sentence("3: Else answers the number of constraints");
        DomainSolver x = Solvers.inWay(way);
        for (int n = 1; n <= 10; n++) {
            checks.due("constraint number " + n, x.constraint(n % 9, 0, 0, 0), n);
        }
        x.drop(3);
        x.drop(3);
        checks.due("after two drops", x.constraint(2, 0, 0, 0), 9);
    }

    private static void dropOfNone(int way) {
        checks.sentence("4: There is none: BAD");
        DomainSolver x = Solvers.mixed(way);
        for (int i : new int[] {-1, 3, 4, 9, 10, 32, LOW, HIGH}) {
            checks.due("drop(" + i + ") of three", x.drop(i), BAD);
        }
        checks.same("after BAD", x, Solvers.mixed(way));
        checks.due("the next one", x.constraint(2, 0, 0, 0), 4);
    }

    private static void dropFromEmpty(int way) {
        checks.sentence("4: There is none: BAD (none at all)");
        DomainSolver x = Solvers.inWay(way);
        for (int i : new int[] {-1, 0, 1}) {
            checks.due("drop(" + i + ") of a new object", x.drop(i), BAD);
        }
        checks.due("the first one", x.constraint(7, 0, 1, 0), 1);
        checks.due("drop(0)", x.drop(0), 0);
        checks.due("drop(0) once more", x.drop(0), BAD);
        checks.due("drop(-1)", x.drop(-1), BAD);
        checks.same("with none left", x, Solvers.inWay(way));
        checks.due("the first one again", x.constraint(2, 0, 0, 0), 1);
    }

    /** Three constraints that have no number in common at any place, but for the one left out. */
    private static DomainSolver three(int way, int leftOut) {
        int[][] constraints = {{7, 1, 1, 3}, {0, Solvers.weighting(0, 1, 0, 0), 2, 0}, {6, 2, 3, 4}};
        DomainSolver x = Solvers.inWay(way);
        for (int i = 0; i < 3; i++) {
            int[] c = constraints[i];
            if (i != leftOut) {
                x.constraint(c[0], c[1], c[2], c[3]);
            }
        }
        return x;
    }

    private static void dropFirst(int way) {
        checks.sentence("4: Takes constraint i out (the first)");
        DomainSolver x = three(way, -1);
        checks.due("drop(0)", x.drop(0), 2);
        checks.same("after drop(0)", x, three(way, 0));
    }

    private static void dropLast(int way) {
        checks.sentence("4: Takes constraint i out (the last)");
        DomainSolver x = three(way, -1);
        checks.due("drop(2)", x.drop(2), 2);
        checks.same("after drop(2)", x, three(way, 2));
        checks.due("drop(2) once more", x.drop(2), BAD);
    }

    private static void dropMiddle(int way) {
        checks.sentence("4: Takes constraint i out (one in between)");
        DomainSolver x = three(way, -1);
        checks.due("drop(1)", x.drop(1), 2);
        checks.same("after drop(1)", x, three(way, 1));
    }

    /** The constraint that can't hold shows in blame where it has gone. */
    private static void dropMovesLaterOnes(int way) {
        checks.sentence("4: later ones move one down");
        for (int i = 0; i < 10; i++) {
            for (int impossible = 0; impossible < 10; impossible++) {
                DomainSolver x = Solvers.inWay(way);
                for (int k = 0; k < 10; k++) {
                    x.constraint(k == impossible ? 7 : 2, 0, 1, 0);
                }
                x.drop(i);
                int place = impossible > i ? impossible - 1 : impossible;
                int due = impossible == i ? 0 : 1 << place;
                checks.due("blame() with " + impossible + " impossible after drop(" + i + ")", x.blame(), due);
            }
        }
    }

    private static void dropFromFull(int way) {
        checks.sentence("4: Takes constraint i out (of ten)");
        DomainSolver x = withTen(way);
        checks.due("drop(10)", x.drop(10), BAD);
        checks.due("drop(9)", x.drop(9), 9);
        checks.due("possible(0)", x.possible(0), 63);
        checks.due("drop(9) once more", x.drop(9), BAD);
        checks.same("nine", x, withNine(way));
    }

    private static void numberLeft(int way) {
        checks.sentence("4: Else answers the number left");
        DomainSolver x = withTen(way);
        for (int left = 9; left >= 0; left--) {
            checks.due("drop down to " + left, x.drop(left / 2), left);
        }
        checks.due("drop from none", x.drop(0), BAD);
    }

    private static void wayTooSmallOrTooLarge(int way) {
        checks.sentence("15: k outside 0..2: refused, answers false");
        DomainSolver x = Solvers.mixed(way);
        for (int k : new int[] {-1, 3, 4, -2, LOW, HIGH}) {
            checks.due("way(" + k + ")", x.way(k), false);
        }
        checks.same("after refusals", x, Solvers.mixed(way));
    }

    private static void wayAtItsEdges(int way) {
        checks.sentence("15: Else true");
        DomainSolver x = Solvers.mixed(way);
        for (int k : new int[] {0, 2, 1, 1, 2, 0}) {
            checks.due("way(" + k + ")", x.way(k), true);
        }
    }

    private static void wayShowsInNoAnswer(int way) {
        checks.sentence("15: It shows in no answer");
        for (int seed = 0; seed < 60; seed++) {
            DomainSolver x = new DomainSolver();
            DomainSolver same = new DomainSolver();
            x.way(way);
            fill(x, new Numbers(seed), -1);
            fill(same, new Numbers(seed), seed % 3);
            checks.same("seed " + seed, x, same);
        }
    }

    /** Domains and constraints by the numbers; in between a way is chosen, if it is one. */
    private static void fill(DomainSolver x, Numbers numbers, int between) {
        for (int v = 0; v < 4; v++) {
            x.domain(v, numbers.from(0, 63) | numbers.from(0, 63));
        }
        x.way(between);
        int constraints = numbers.from(0, 5);
        for (int n = 0; n < constraints; n++) {
            int[] c = numbers.properConstraint(numbers.from(0, 8));
            x.constraint(c[0], c[1], c[2], c[3]);
        }
    }

    /** Changes and questions by turns up to the very last call that is promised anything about. */
    private static void lastOf512Calls(int way) {
        checks.sentence("An object is used for at most 512 calls");
        DomainSolver x = Solvers.inWay(way);
        int calls = 1;
        for (int round = 0; calls + 7 <= 512; round++) {
            checks.due("constraint in round " + round, x.constraint(2, 0b1111, 0, 0), 1);
            checks.due("best in round " + round, x.best(1200), 360);
            checks.due("domain in round " + round, x.domain(round % 4, 0), true);
            checks.due("blame in round " + round, x.blame(), 0);
            checks.due("domain in round " + round, x.domain(round % 4, 63), true);
            checks.due("drop in round " + round, x.drop(0), 0);
            checks.due("count in round " + round, x.count(), 1296);
            calls += 7;
        }
        while (calls < 511) {
            checks.due("refused call " + calls, x.domain(4, 0), false);
            calls++;
        }
        checks.due("call 512", x.count(), 1296);
    }
}
