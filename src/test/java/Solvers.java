/** Objects in the states that tests begin with, and all that can be asked of one. */
final class Solvers {
    static final int LOW = Integer.MIN_VALUE;
    static final int HIGH = Integer.MAX_VALUE;

    private Solvers() {
    }

    static DomainSolver inWay(int way) {
        DomainSolver x = new DomainSolver();
        x.way(way);
        return x;
    }

    /** The domains leave one assignment. */
    static DomainSolver withValues(int way, int a, int b, int c, int d) {
        DomainSolver x = inWay(way);
        x.domain(0, 1 << a);
        x.domain(1, 1 << b);
        x.domain(2, 1 << c);
        x.domain(3, 1 << d);
        return x;
    }

    /** Variable 0 is to differ from itself: a constraint that can't hold. */
    static DomainSolver withoutSolution(int way) {
        DomainSolver x = inWay(way);
        x.constraint(6, 0, 0, 1);
        return x;
    }

    /** Small domains and three constraints, one of them needless, with some solutions. */
    static DomainSolver mixed(int way) {
        DomainSolver x = inWay(way);
        x.domain(0, 0b010110);
        x.domain(2, 0b111001);
        x.constraint(6, 0, 1, 2);
        x.constraint(7, 0b1111, 0, 1);
        x.constraint(2, 0b0011, 0, 0);
        return x;
    }

    static int weighting(int a, int b, int c, int d) {
        return (a + 3) + (b + 3) * 7 + (c + 3) * 49 + (d + 3) * 343;
    }

    /** All there is to ask, in 63 calls; the constraints themselves show in needless and blame. */
    static int[] answers(DomainSolver x) {
        int[] answers = new int[63];
        int n = 0;
        answers[n++] = x.solvable() ? 1 : 0;
        answers[n++] = x.count();
        answers[n++] = x.blame();
        for (int v = 0; v < 4; v++) {
            answers[n++] = x.first(v);
            answers[n++] = x.possible(v);
            for (int value = 0; value < 6; value++) {
                answers[n++] = x.countWith(v, value);
            }
        }
        for (int i = 0; i < 10; i++) {
            answers[n++] = x.needless(i) ? 1 : 0;
        }
        for (int weighting : new int[] {0, weighting(1, -2, 3, -1), 1200, weighting(-1, 0, 0, 2), 2399, 2400}) {
            answers[n++] = x.least(weighting);
            answers[n++] = x.best(weighting);
            answers[n++] = x.bestOne(weighting);
        }
        return answers;
    }
}
