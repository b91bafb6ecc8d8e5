/** Promises 5 to 14 and 16: a test for each sentence that names a boundary case. */
public final class QuestionEdgeTest {
    private static final int LOW = Solvers.LOW;
    private static final int HIGH = Solvers.HIGH;
    private static final int BAD = DomainSolver.BAD;
    private static final int NONE = DomainSolver.NONE;
    private static final int[] NO_VARIABLES = {-1, 4, -4, 31, 32, LOW, HIGH};
    private static final int[] NO_VALUES = {-1, 6, -6, 32, LOW, HIGH};
    private static final int[] NO_WEIGHTINGS = {-1, 2401, -2400, 4801, LOW, HIGH};
    private static final Checks checks = new Checks();

    public static void main(String[] args) {
        for (int way = 0; way <= 2; way++) {
            solvable(way);
            firstOfNoVariable(way);
            firstWithoutSolution(way);
            firstBadBeforeNone(way);
            firstOfOneAndOfAll(way);
            count(way);
            possibleOfNoVariable(way);
            possibleWithoutSolution(way);
            possibleValues(way);
            leastOfNoWeighting(way);
            leastWithoutSolution(way);
            leastBadBeforeNone(way);
            leastAtItsEdges(way);
            bestWithoutSolution(way);
            bestOfNoWeighting(way);
            bestBadFirst(way);
            bestAtItsEdges(way);
            bestOneOfNoWeighting(way);
            bestOneWithoutSolution(way);
            bestOneBadBeforeNone(way);
            bestOneIsTheFirst(way);
            bestOneDigits(way);
            needlessOfNone(way);
            needlessAfterDrop(way);
            needlessPlaysNoPart(way);
            needlessWithoutSolution(way);
            needlessOfTen(way);
            blameWithSolution(way);
            blameWithoutConstraints(way);
            blameOfOne(way);
            blameFromZeroOn(way);
            blameOfAllTen(way);
            blameOfTheLast(way);
            blameOfEmptyDomain(way);
            countWithNoVariable(way);
            countWithNoValue(way);
            countWithWrongAndNoSolution(way);
            countWithAtItsEdges(way);
        }
        checks.end();
    }

    private static DomainSolver withEmptyDomain(int way, int v) {
        DomainSolver x = Solvers.inWay(way);
        x.domain(v, 0);
        return x;
    }

    private static void solvable(int way) {
        checks.sentence("5: Whether there is a solution");
        checks.due("of all assignments", Solvers.inWay(way).solvable(), true);
        checks.due("of the first alone", Solvers.withValues(way, 0, 0, 0, 0).solvable(), true);
        checks.due("of the last alone", Solvers.withValues(way, 5, 5, 5, 5).solvable(), true);
        checks.due("of none, by a constraint", Solvers.withoutSolution(way).solvable(), false);
        checks.due("of none, by domain 0", withEmptyDomain(way, 0).solvable(), false);
        checks.due("of none, by domain 3", withEmptyDomain(way, 3).solvable(), false);
    }

    private static void firstOfNoVariable(int way) {
        checks.sentence("6: v outside 0..3: BAD");
        DomainSolver x = Solvers.mixed(way);
        for (int v : NO_VARIABLES) {
            checks.due("first(" + v + ")", x.first(v), BAD);
        }
        checks.same("after BAD", x, Solvers.mixed(way));
    }

    private static void firstWithoutSolution(int way) {
        checks.sentence("6: there is no solution: NONE");
        for (int v = 0; v < 4; v++) {
            checks.due("first(" + v + ") by a constraint", Solvers.withoutSolution(way).first(v), NONE);
            checks.due("first(" + v + ") by its domain", withEmptyDomain(way, v).first(v), NONE);
            checks.due("first(" + v + ") by another domain", withEmptyDomain(way, 3 - v).first(v), NONE);
        }
    }

    private static void firstBadBeforeNone(int way) {
        checks.sentence("6: Tested in this order: v outside 0..3: BAD; there is no solution: NONE");
        DomainSolver x = Solvers.withoutSolution(way);
        for (int v : NO_VARIABLES) {
            checks.due("first(" + v + ")", x.first(v), BAD);
        }
    }

    private static void firstOfOneAndOfAll(int way) {
        checks.sentence("6: The value of a variable in the first solution");
        DomainSolver all = Solvers.inWay(way);
        DomainSolver last = Solvers.inWay(way);
        last.constraint(1, 2400, 60, 0);
        DomainSolver one = Solvers.withValues(way, 4, 0, 5, 1);
        int[] due = {4, 0, 5, 1};
        for (int v = 0; v < 4; v++) {
            checks.due("first(" + v + ") of all", all.first(v), 0);
            checks.due("first(" + v + ") of the last alone", last.first(v), 5);
            checks.due("first(" + v + ") of one", one.first(v), due[v]);
        }
    }

    private static void count(int way) {
        checks.sentence("7: The number of solutions");
        checks.due("of all assignments", Solvers.inWay(way).count(), 1296);
        checks.due("of one", Solvers.withValues(way, 0, 0, 0, 0).count(), 1);
        checks.due("of none, by a constraint", Solvers.withoutSolution(way).count(), 0);
        checks.due("of none, by a domain", withEmptyDomain(way, 2).count(), 0);
        DomainSolver x = Solvers.inWay(way);
        x.constraint(7, 15, 4, 5);
        checks.due("of the last alone", x.count(), 1);
        x.drop(0);
        x.constraint(0, 2400, 59, 0);
        checks.due("of all but the last", x.count(), 1295);
    }

    private static void possibleOfNoVariable(int way) {
        checks.sentence("8: BAD for v outside 0..3");
        for (int v : NO_VARIABLES) {
            checks.due("possible(" + v + ")", Solvers.mixed(way).possible(v), BAD);
            checks.due("possible(" + v + ") without solution", Solvers.withoutSolution(way).possible(v), BAD);
        }
    }

    private static void possibleWithoutSolution(int way) {
        checks.sentence("8: The values that a variable has in some solution, as a set (of none)");
        for (int v = 0; v < 4; v++) {
            checks.due("possible(" + v + ") by a constraint", Solvers.withoutSolution(way).possible(v), 0);
            checks.due("possible(" + v + ") by another domain", withEmptyDomain(way, 3 - v).possible(v), 0);
        }
    }

    private static void possibleValues(int way) {
        checks.sentence("8: The values that a variable has in some solution, as a set");
        DomainSolver x = Solvers.inWay(way);
        checks.due("possible(3) of all", x.possible(3), 63);
        // Variable 0 is less than variable 1: so it can't be 5, and variable 1 can't be 0.
        x.constraint(0, Solvers.weighting(1, -1, 0, 0), -1, 0);
        checks.due("possible(0) of the smaller", x.possible(0), 0b011111);
        checks.due("possible(1) of the greater", x.possible(1), 0b111110);
        checks.due("possible(2) of another", x.possible(2), 63);
        checks.due("possible(0) of the first alone", Solvers.withValues(way, 0, 1, 2, 5).possible(0), 1);
        checks.due("possible(3) of one", Solvers.withValues(way, 0, 1, 2, 5).possible(3), 32);
    }

    private static void leastOfNoWeighting(int way) {
        checks.sentence("9: weighting outside 0..2400: BAD");
        DomainSolver x = Solvers.mixed(way);
        for (int weighting : NO_WEIGHTINGS) {
            checks.due("least(" + weighting + ")", x.least(weighting), BAD);
        }
        checks.same("after BAD", x, Solvers.mixed(way));
    }

    private static void leastWithoutSolution(int way) {
        checks.sentence("9: there is no solution: NONE");
        for (int weighting : new int[] {0, 1200, 2400}) {
            checks.due("by a constraint", Solvers.withoutSolution(way).least(weighting), NONE);
            checks.due("by a domain", withEmptyDomain(way, 1).least(weighting), NONE);
        }
    }

    private static void leastBadBeforeNone(int way) {
        checks.sentence("9: Tested in this order: weighting outside 0..2400: BAD; there is no solution: NONE");
        DomainSolver x = Solvers.withoutSolution(way);
        for (int weighting : NO_WEIGHTINGS) {
            checks.due("least(" + weighting + ")", x.least(weighting), BAD);
        }
    }

    private static void leastAtItsEdges(int way) {
        checks.sentence("9: The smallest sum under a weighting of a solution");
        DomainSolver all = Solvers.inWay(way);
        checks.due("least(0) of all", all.least(0), -60);
        checks.due("least(1200) of all", all.least(1200), 0);
        checks.due("least(2400) of all", all.least(2400), 0);
        DomainSolver last = Solvers.withValues(way, 5, 5, 5, 5);
        checks.due("least(2400) of the last alone", last.least(2400), 60);
        checks.due("least(2399) of the last alone", last.least(2399), 55);
        // A sum of no solution must not be answered: the smallest but one.
        all.constraint(0, 2400, 59, 0);
        checks.due("least(0) of all but the last", all.least(0), -57);
    }

    private static void bestWithoutSolution(int way) {
        checks.sentence("10: 0 if there is no solution");
        for (int weighting : new int[] {0, 1200, 2400}) {
            checks.due("by a constraint", Solvers.withoutSolution(way).best(weighting), 0);
            checks.due("by a domain", withEmptyDomain(way, 2).best(weighting), 0);
        }
    }

    private static void bestOfNoWeighting(int way) {
        checks.sentence("10: BAD for weighting outside 0..2400");
        DomainSolver x = Solvers.mixed(way);
        for (int weighting : NO_WEIGHTINGS) {
            checks.due("best(" + weighting + ")", x.best(weighting), BAD);
        }
        checks.same("after BAD", x, Solvers.mixed(way));
    }

    private static void bestBadFirst(int way) {
        checks.sentence("16: best: BAD is tested first, also if there is no solution");
        for (int weighting : NO_WEIGHTINGS) {
            checks.due("best(" + weighting + ") by a constraint", Solvers.withoutSolution(way).best(weighting), BAD);
            checks.due("best(" + weighting + ") by a domain", withEmptyDomain(way, 0).best(weighting), BAD);
        }
    }

    private static void bestAtItsEdges(int way) {
        checks.sentence("10: The number of solutions with the smallest sum under a weighting");
        DomainSolver all = Solvers.inWay(way);
        checks.due("best(0) of all", all.best(0), 1);
        checks.due("best(1200) of all", all.best(1200), 1296);
        checks.due("best(2400) of all", all.best(2400), 1);
        checks.due("best with weight 3 at 3 alone", all.best(Solvers.weighting(0, 0, 0, 3)), 216);
        checks.due("best with weight -3 at 0 alone", all.best(Solvers.weighting(-3, 0, 0, 0)), 216);
        checks.due("best(2400) of the last alone", Solvers.withValues(way, 5, 5, 5, 5).best(2400), 1);
        all.constraint(0, 2400, 59, 0);
        checks.due("best(0) of all but the last", all.best(0), 4);
    }

    private static void bestOneOfNoWeighting(int way) {
        checks.sentence("11: BAD as for least");
        DomainSolver x = Solvers.mixed(way);
        for (int weighting : NO_WEIGHTINGS) {
            checks.due("bestOne(" + weighting + ")", x.bestOne(weighting), BAD);
        }
        checks.same("after BAD", x, Solvers.mixed(way));
    }

    private static void bestOneWithoutSolution(int way) {
        checks.sentence("11: NONE as for least");
        for (int weighting : new int[] {0, 1200, 2400}) {
            checks.due("by a constraint", Solvers.withoutSolution(way).bestOne(weighting), NONE);
            checks.due("by a domain", withEmptyDomain(way, 3).bestOne(weighting), NONE);
        }
    }

    private static void bestOneBadBeforeNone(int way) {
        checks.sentence("11: BAD and NONE as for least (in this order)");
        DomainSolver x = Solvers.withoutSolution(way);
        for (int weighting : NO_WEIGHTINGS) {
            checks.due("bestOne(" + weighting + ")", x.bestOne(weighting), BAD);
        }
    }

    private static void bestOneIsTheFirst(int way) {
        checks.sentence("11: Of the solutions with the smallest sum under a weighting the first one");
        DomainSolver x = Solvers.inWay(way);
        checks.due("bestOne(1200) of all", x.bestOne(1200), 0);
        // Sum 3: from 0003 to 3000, all alike under equal weights.
        x.constraint(1, Solvers.weighting(1, 1, 1, 1), 3, 0);
        checks.due("bestOne(0) of those with sum 3", x.bestOne(0), 3);
        checks.due("bestOne(2400) of those with sum 3", x.bestOne(2400), 3);
        checks.due("bestOne with weight -1 at 0", x.bestOne(Solvers.weighting(-1, 0, 0, 0)), 3 * 216);
        checks.due("bestOne with weight 1 at 3", x.bestOne(Solvers.weighting(0, 0, 0, 1)), 3 * 6);
    }

    private static void bestOneDigits(int way) {
        checks.sentence("11: the values as digits to base 6, that of variable 0 the highest");
        checks.due("of 0000", Solvers.withValues(way, 0, 0, 0, 0).bestOne(0), 0);
        checks.due("of 5555", Solvers.withValues(way, 5, 5, 5, 5).bestOne(2400), 1295);
        checks.due("of 5000", Solvers.withValues(way, 5, 0, 0, 0).bestOne(1200), 5 * 216);
        checks.due("of 0500", Solvers.withValues(way, 0, 5, 0, 0).bestOne(1200), 5 * 36);
        checks.due("of 0050", Solvers.withValues(way, 0, 0, 5, 0).bestOne(1200), 5 * 6);
        checks.due("of 0005", Solvers.withValues(way, 0, 0, 0, 5).bestOne(1200), 5);
    }

    private static void needlessOfNone(int way) {
        checks.sentence("12: false if there is none");
        DomainSolver empty = Solvers.inWay(way);
        DomainSolver three = Solvers.mixed(way);
        DomainSolver unsolvable = withEmptyDomain(way, 0);
        for (int i : new int[] {-1, 3, 9, 10, 31, 32, 34, LOW, HIGH}) {
            checks.due("needless(" + i + ") of no constraints", empty.needless(i), false);
            checks.due("needless(" + i + ") of three", three.needless(i), false);
            checks.due("needless(" + i + ") of no constraints and no solution", unsolvable.needless(i), false);
        }
        checks.due("needless(0) of no constraints", empty.needless(0), false);
        checks.same("after questions for none", three, Solvers.mixed(way));
    }

    private static void needlessAfterDrop(int way) {
        checks.sentence("12: false if there is none (any more)");
        DomainSolver x = Solvers.inWay(way);
        x.constraint(2, 0, 0, 0);
        x.constraint(2, 0, 0, 0);
        checks.due("needless(1)", x.needless(1), true);
        x.drop(0);
        checks.due("needless(1) after drop(0)", x.needless(1), false);
        checks.due("needless(0) after drop(0)", x.needless(0), true);
        x.drop(0);
        checks.due("needless(0) after both drops", x.needless(0), false);
    }

    private static void needlessPlaysNoPart(int way) {
        checks.sentence("12: Whether constraint i plays no part: the solutions are the same without it");
        DomainSolver x = Solvers.inWay(way);
        x.constraint(0, 2400, 59, 0);
        checks.due("it takes one solution of all", x.needless(0), false);
        x.constraint(0, 2400, 60, 0);
        checks.due("it takes none", x.needless(1), true);
        x.constraint(7, 15, 0, 5);
        checks.due("what another one takes too", x.needless(0), true);
        checks.due("the other one", x.needless(2), false);
        x.constraint(7, 15, 0, 5);
        checks.due("the first of two alike", x.needless(2), true);
        checks.due("the second of two alike", x.needless(3), true);
        DomainSolver y = Solvers.withValues(way, 0, 5, 5, 5);
        y.constraint(2, 0b0011, 0, 0);
        checks.due("what the domains take already", y.needless(0), true);
    }

    private static void needlessWithoutSolution(int way) {
        checks.sentence("12: the solutions are the same without it (there are none with it)");
        DomainSolver x = Solvers.withoutSolution(way);
        checks.due("it alone takes all", x.needless(0), false);
        x.constraint(2, 15, 0, 0);
        checks.due("another takes all already", x.needless(1), true);
        x.constraint(7, 0, 1, 0);
        checks.due("a third takes all too", x.needless(0), true);
        checks.due("the third", x.needless(2), true);
        DomainSolver y = withEmptyDomain(way, 3);
        y.constraint(6, 0, 0, 1);
        checks.due("an empty domain takes all already", y.needless(0), true);
    }

    private static void needlessOfTen(int way) {
        checks.sentence("12: Whether constraint i plays no part (the first and the last of ten)");
        DomainSolver x = Solvers.inWay(way);
        x.constraint(7, 1, 0, 0);
        for (int i = 1; i < 9; i++) {
            x.constraint(2, 0, 0, 0);
        }
        x.constraint(7, 8, 0, 0);
        for (int i = 0; i < 10; i++) {
            checks.due("needless(" + i + ")", x.needless(i), i > 0 && i < 9);
        }
        checks.due("needless(10)", x.needless(10), false);
    }

    private static void blameWithSolution(int way) {
        checks.sentence("13: 0 if there is a solution with all");
        checks.due("of some", Solvers.mixed(way).blame(), 0);
        DomainSolver x = Solvers.inWay(way);
        x.constraint(1, 2400, 60, 0);
        checks.due("of the last assignment alone", x.blame(), 0);
        x.drop(0);
        x.constraint(1, 2400, 0, 0);
        checks.due("of the first assignment alone", x.blame(), 0);
    }

    private static void blameWithoutConstraints(int way) {
        checks.sentence("13: beginning with all (of none)");
        checks.due("with solutions", Solvers.inWay(way).blame(), 0);
        checks.due("without, by a domain", withEmptyDomain(way, 0).blame(), 0);
    }

    private static void blameOfOne(int way) {
        checks.sentence("13: A set of constraints without a common solution (of one)");
        checks.due("blame()", Solvers.withoutSolution(way).blame(), 1);
        DomainSolver x = Solvers.withValues(way, 3, 3, 3, 3);
        x.constraint(2, 0b1001, 0, 0);
        checks.due("blame() with the domains' help", x.blame(), 1);
    }

    private static void blameFromZeroOn(int way) {
        checks.sentence("13: from constraint 0 on each is left out if there still is no solution without it and the others left out before");
        // Variable 0 is 1, is 2, is 1: the first is left out, then neither of the others can be.
        DomainSolver x = Solvers.inWay(way);
        x.constraint(7, 1, 1, 1);
        x.constraint(7, 1, 1, 2);
        x.constraint(7, 1, 1, 1);
        checks.due("blame() of three", x.blame(), 0b110);
        x.constraint(7, 1, 1, 2);
        checks.due("blame() of four", x.blame(), 0b1100);
        x.constraint(2, 0, 0, 0);
        checks.due("blame() of four and one that always holds", x.blame(), 0b1100);
        x.constraint(7, 0, 1, 0);
        checks.due("blame() with one that never holds", x.blame(), 0b100000);
        DomainSolver y = Solvers.withoutSolution(way);
        y.constraint(2, 15, 0, 0);
        checks.due("blame() of the first alone", y.blame(), 1);
    }

    /**
     * Values 0 and 1 alone make 16 assignments. Each of ten constraints takes one or two of them away that no other one
     * takes, so that none can be left out.
     */
    private static void blameOfAllTen(int way) {
        checks.sentence("13: a number whose bit i speaks of constraint i (all ten)");
        DomainSolver x = Solvers.inWay(way);
        for (int v = 0; v < 4; v++) {
            x.domain(v, 3);
        }
        for (int corner = 0; corner < 6; corner++) {
            takeAway(x, corner, 3);
        }
        checks.due("count() with six", x.count(), 4);
        checks.due("blame() with six", x.blame(), 0);
        for (int corner : new int[] {6, 7, 14, 15}) {
            takeAway(x, corner, 4);
        }
        checks.due("drop(10)", x.drop(10), BAD);
        checks.due("blame() with ten", x.blame(), 1023);
        x.drop(9);
        checks.due("blame() with nine", x.blame(), 0);
    }

    /** Adds the constraint that not all of the first variables have the values that are the corner's bits. */
    private static void takeAway(DomainSolver x, int corner, int variables) {
        int[] weights = new int[4];
        int ones = 0;
        for (int v = 0; v < variables; v++) {
            int bit = corner >> v & 1;
            weights[v] = bit == 1 ? 1 : -1;
            ones += bit;
        }
        x.constraint(0, Solvers.weighting(weights[0], weights[1], weights[2], weights[3]), ones - 1, 0);
    }

    private static void blameOfTheLast(int way) {
        checks.sentence("13: a number whose bit i speaks of constraint i (one of ten)");
        for (int impossible = 0; impossible < 10; impossible++) {
            DomainSolver x = Solvers.inWay(way);
            for (int i = 0; i < 10; i++) {
                x.constraint(i == impossible ? 7 : 2, 0, 1, 0);
            }
            checks.due("blame() with " + impossible + " impossible", x.blame(), 1 << impossible);
        }
    }

    private static void blameOfEmptyDomain(int way) {
        checks.sentence("13: each is left out if there still is no solution without it (nor without any)");
        DomainSolver x = withEmptyDomain(way, 2);
        x.constraint(6, 0, 0, 1);
        checks.due("blame() of one", x.blame(), 0);
        x.constraint(7, 0, 1, 0);
        checks.due("blame() of two", x.blame(), 0);
    }

    private static void countWithNoVariable(int way) {
        checks.sentence("14: BAD for v outside 0..3");
        DomainSolver x = Solvers.mixed(way);
        for (int v : NO_VARIABLES) {
            checks.due("countWith(" + v + ", 0)", x.countWith(v, 0), BAD);
            checks.due("countWith(" + v + ", 5)", x.countWith(v, 5), BAD);
            checks.due("countWith(" + v + ", 6)", x.countWith(v, 6), BAD);
        }
        checks.same("after BAD", x, Solvers.mixed(way));
    }

    private static void countWithNoValue(int way) {
        checks.sentence("14: BAD for x outside 0..5");
        DomainSolver x = Solvers.mixed(way);
        for (int value : NO_VALUES) {
            checks.due("countWith(0, " + value + ")", x.countWith(0, value), BAD);
            checks.due("countWith(3, " + value + ")", x.countWith(3, value), BAD);
        }
        checks.same("after BAD", x, Solvers.mixed(way));
    }

    private static void countWithWrongAndNoSolution(int way) {
        checks.sentence("14: BAD for v outside 0..3 or x outside 0..5 (also without a solution)");
        DomainSolver x = Solvers.withoutSolution(way);
        checks.due("countWith(-1, 0)", x.countWith(-1, 0), BAD);
        checks.due("countWith(4, 0)", x.countWith(4, 0), BAD);
        checks.due("countWith(0, -1)", x.countWith(0, -1), BAD);
        checks.due("countWith(3, 6)", x.countWith(3, 6), BAD);
        checks.due("countWith(0, 0)", x.countWith(0, 0), 0);
        checks.due("countWith(3, 5)", x.countWith(3, 5), 0);
    }

    private static void countWithAtItsEdges(int way) {
        checks.sentence("14: The number of solutions in which variable v has the value x");
        DomainSolver x = Solvers.inWay(way);
        x.domain(3, 0b111110);
        checks.due("countWith(0, 0)", x.countWith(0, 0), 5 * 36);
        checks.due("countWith(0, 5)", x.countWith(0, 5), 5 * 36);
        checks.due("countWith(3, 0), not in the domain", x.countWith(3, 0), 0);
        checks.due("countWith(3, 5)", x.countWith(3, 5), 216);
        x.constraint(7, 15, 4, 5);
        checks.due("countWith(3, 5) of the last alone", x.countWith(3, 5), 1);
        checks.due("countWith(3, 4) of the last alone", x.countWith(3, 4), 0);
    }
}
