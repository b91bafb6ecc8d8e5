/** Promises 5 to 11, 14 and 16: what is asked of the solutions, each in all three ways. */
public final class AnswersTest {
    private static final int LOW = Solvers.LOW;
    private static final int HIGH = Solvers.HIGH;
    private static final Checks checks = new Checks();

    public static void main(String[] args) {
        for (int way = 0; way <= 2; way++) {
            someSolutions(way);
            orderOfSolutions(way);
            oneSolution(way);
            noSolutions(way);
            emptyDomain(way);
            sums(way);
            wrongNumbers(way, true);
            wrongNumbers(way, false);
            askingChangesNothing(way);
        }
        checks.end();
    }

    /** Variable 0 is 2 or 4, variable 1 is half of it, variable 2 is 0 or 5, variable 3 is 3. */
    private static DomainSolver halves(int way) {
        DomainSolver x = Solvers.inWay(way);
        x.domain(0, 1 << 2 | 1 << 4);
        x.domain(2, 1 << 0 | 1 << 5);
        x.domain(3, 1 << 3);
        x.constraint(1, 4 + 1 * 7 + 3 * 49 + 3 * 343, 0, 0);
        return x;
    }

    private static void someSolutions(int way) {
        DomainSolver x = halves(way);
        checks.due("5: solvable()", x.solvable(), true);
        checks.due("7: count()", x.count(), 4);
        int[] first = {2, 1, 0, 3};
        int[] possible = {1 << 2 | 1 << 4, 1 << 1 | 1 << 2, 1 << 0 | 1 << 5, 1 << 3};
        for (int v = 0; v < 4; v++) {
            checks.due("6: first(" + v + ")", x.first(v), first[v]);
            checks.due("8: possible(" + v + ")", x.possible(v), possible[v]);
            for (int value = 0; value < 6; value++) {
                int each = v == 3 ? 4 : 2;
                int due = (possible[v] >> value & 1) * each;
                checks.due("14: countWith(" + v + ", " + value + ")", x.countWith(v, value), due);
            }
        }
    }

    /** The value of variable 0 comes first in the order, even where later variables grow smaller. */
    private static void orderOfSolutions(int way) {
        DomainSolver x = Solvers.inWay(way);
        x.constraint(1, 4 + 4 * 7 + 4 * 49 + 4 * 343, 17, 0);
        int[] first = {2, 5, 5, 5};
        for (int v = 0; v < 4; v++) {
            checks.due("6: first(" + v + ") of sum 17", x.first(v), first[v]);
        }
        checks.due("11: bestOne(1200) of sum 17", x.bestOne(1200), 2 * 216 + 5 * 36 + 5 * 6 + 5);
        checks.due("10: best(1200) of sum 17", x.best(1200), 20);
    }

    private static void oneSolution(int way) {
        DomainSolver x = Solvers.inWay(way);
        x.constraint(1, 0, -60, 0);
        checks.due("7: count() of one", x.count(), 1);
        checks.due("8: possible(2) of one", x.possible(2), 32);
        checks.due("6: first(2) of one", x.first(2), 5);
        checks.due("14: countWith(2, 5) of one", x.countWith(2, 5), 1);
        checks.due("10: best(2400) of one", x.best(2400), 1);
    }

    private static void noSolutions(int way) {
        DomainSolver x = Solvers.inWay(way);
        x.constraint(6, 2, 2, 1);
        everyAnswerWithoutSolution(x);
    }

    private static void emptyDomain(int way) {
        for (int v = 0; v < 4; v++) {
            DomainSolver x = Solvers.inWay(way);
            x.domain(v, 0);
            everyAnswerWithoutSolution(x);
        }
    }

    private static void everyAnswerWithoutSolution(DomainSolver x) {
        checks.due("5: solvable() without", x.solvable(), false);
        checks.due("7: count() without", x.count(), 0);
        for (int v = 0; v < 4; v++) {
            checks.due("6: first(v) without", x.first(v), DomainSolver.NONE);
            checks.due("8: possible(v) without", x.possible(v), 0);
            checks.due("14: countWith(v, v) without", x.countWith(v, v), 0);
        }
        for (int weighting : new int[] {0, 1200, 2400}) {
            checks.due("9: least without", x.least(weighting), DomainSolver.NONE);
            checks.due("10: best without", x.best(weighting), 0);
            checks.due("11: bestOne without", x.bestOne(weighting), DomainSolver.NONE);
        }
    }

    private static void sums(int way) {
        DomainSolver x = Solvers.inWay(way);
        checks.due("9: least(0)", x.least(0), -60);
        checks.due("10: best(0)", x.best(0), 1);
        checks.due("11: bestOne(0)", x.bestOne(0), 1295);
        checks.due("9: least(2400)", x.least(2400), 0);
        checks.due("11: bestOne(2400)", x.bestOne(2400), 0);
        checks.due("9: least(1200)", x.least(1200), 0);
        checks.due("10: best(1200)", x.best(1200), 1296);
        checks.due("11: bestOne(1200)", x.bestOne(1200), 0);

        // Weight -1 for variable 0 alone, then for variable 3 alone: digit 2 among digits 3.
        checks.due("9: least(1199)", x.least(1199), -5);
        checks.due("10: best(1199)", x.best(1199), 216);
        checks.due("11: bestOne(1199)", x.bestOne(1199), 5 * 216);
        checks.due("9: least(1200 - 343)", x.least(1200 - 343), -5);
        checks.due("11: bestOne(1200 - 343)", x.bestOne(1200 - 343), 5);

        // The greatest sum there is must be found when it is the only one.
        for (int v = 0; v < 4; v++) {
            x.domain(v, 32);
        }
        checks.due("9: least(2400) of fives", x.least(2400), 60);
        checks.due("10: best(2400) of fives", x.best(2400), 1);
        checks.due("11: bestOne(2400) of fives", x.bestOne(2400), 1295);

        DomainSolver y = halves(way);
        checks.due("9: halves: least(1201)", y.least(1201), 2);
        checks.due("10: halves: best(1201)", y.best(1201), 2);
        checks.due("11: halves: bestOne(1201)", y.bestOne(1201), 2 * 216 + 1 * 36 + 0 * 6 + 3);
        checks.due("9: halves: least(1199)", y.least(1199), -4);
        checks.due("11: halves: bestOne(1199)", y.bestOne(1199), 4 * 216 + 2 * 36 + 0 * 6 + 3);
    }

    /** BAD comes before NONE and before 0. */
    private static void wrongNumbers(int way, boolean withSolutions) {
        DomainSolver x = Solvers.inWay(way);
        if (!withSolutions) {
            x.domain(0, 0);
        }
        for (int v : new int[] {-1, 4, LOW, HIGH}) {
            checks.due("6: first(" + v + ")", x.first(v), DomainSolver.BAD);
            checks.due("8: possible(" + v + ")", x.possible(v), DomainSolver.BAD);
            checks.due("14: countWith(" + v + ", 0)", x.countWith(v, 0), DomainSolver.BAD);
        }
        for (int value : new int[] {-1, 6, LOW, HIGH}) {
            checks.due("14: countWith(0, " + value + ")", x.countWith(0, value), DomainSolver.BAD);
        }
        for (int weighting : new int[] {-1, 2401, LOW, HIGH}) {
            checks.due("9: least(" + weighting + ")", x.least(weighting), DomainSolver.BAD);
            checks.due("10, 16: best(" + weighting + ")", x.best(weighting), DomainSolver.BAD);
            checks.due("11: bestOne(" + weighting + ")", x.bestOne(weighting), DomainSolver.BAD);
        }
    }

    /** No question leaves a trace in the answer to the next one. */
    private static void askingChangesNothing(int way) {
        DomainSolver x = halves(way);
        x.best(1201);
        checks.due("7: count() after best", x.count(), 4);
        x.needless(0);
        checks.due("7: count() after needless", x.count(), 4);
        checks.due("8: possible(0) after needless", x.possible(0), 1 << 2 | 1 << 4);
        x.blame();
        checks.due("6: first(1) after blame", x.first(1), 1);
        x.least(0);
        checks.due("14: countWith(2, 5) after least", x.countWith(2, 5), 2);
        x.domain(2, 32);
        checks.due("10: best(1200) just after domain", x.best(1200), 2);
        x.domain(0, 16);
        checks.due("11: bestOne(1200) just after domain", x.bestOne(1200), 4 * 216 + 2 * 36 + 5 * 6 + 3);
        x.domain(3, 3);
        checks.due("7: count() just after domain", x.count(), 2);
        checks.due("8: possible(3) of both", x.possible(3), 3);
    }
}
