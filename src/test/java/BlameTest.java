/** Promises 12 and 13: needless and blame, each in all three ways. */
public final class BlameTest {
    private static final Checks checks = new Checks();

    public static void main(String[] args) {
        for (int way = 0; way <= 2; way++) {
            needless(way);
            needlessWithoutSolutions(way);
            blameIsForLater(way);
            blameNeedsAll(way);
            blameWithEmptyDomain(way);
            blameOfTen(way);
        }
        checks.end();
    }

    private static void needless(int way) {
        DomainSolver x = Solvers.inWay(way);
        for (int i : new int[] {-1, 0, 10, 31, 32, Integer.MIN_VALUE, Integer.MAX_VALUE}) {
            checks.due("12: needless(" + i + ") of none", x.needless(i), false);
        }
        x.constraint(6, 0, 1, 1);
        x.constraint(6, 0, 1, 0);
        checks.due("12: the one that plays a part", x.needless(0), false);
        checks.due("12: the one that always holds", x.needless(1), true);
        checks.due("12: needless(2)", x.needless(2), false);
        checks.due("12: needless(-1)", x.needless(-1), false);
        x.constraint(2, 3, 0, 0);
        checks.due("12: the first of two alike", x.needless(0), true);
        checks.due("12: the second of two alike", x.needless(2), true);
        x.drop(0);
        checks.due("12: the one that is left of them", x.needless(1), false);
        x.domain(0, 7);
        x.domain(1, 56);
        checks.due("12: what the domains see to already", x.needless(1), true);
    }

    private static void needlessWithoutSolutions(int way) {
        DomainSolver x = Solvers.inWay(way);
        x.constraint(6, 0, 0, 1);
        checks.due("12: alone to blame", x.needless(0), false);
        x.constraint(6, 0, 1, 5);
        checks.due("12: of no solutions the other one takes none", x.needless(1), true);
        x.constraint(7, 0, 1, 0);
        checks.due("12: no longer alone to blame", x.needless(0), true);
        x.drop(0);
        x.domain(3, 0);
        checks.due("12: with an empty domain", x.needless(0), true);
        checks.due("12: with an empty domain", x.needless(1), true);
    }

    /** What is tried first is left out first: the later ones stay. */
    private static void blameIsForLater(int way) {
        DomainSolver x = Solvers.inWay(way);
        checks.due("13: blame() of none", x.blame(), 0);
        x.constraint(7, 0, 1, 0);
        checks.due("13: blame() of one", x.blame(), 1);
        x.constraint(6, 1, 1, 1);
        checks.due("13: blame() of two, each alone enough", x.blame(), 2);
        x.constraint(2, 15, 0, 0);
        checks.due("13: blame() with one that can hold", x.blame(), 2);
        x.drop(1);
        checks.due("13: blame() after drop(1)", x.blame(), 1);
        x.drop(0);
        checks.due("13: blame() where there is a solution", x.blame(), 0);
    }

    /** Variable 0 less than 1, 1 less than 2, 2 less than 0: any two of them can hold. */
    private static void blameNeedsAll(int way) {
        DomainSolver x = Solvers.inWay(way);
        x.constraint(2, 8, 0, 0);
        x.constraint(0, 4 + 2 * 7 + 3 * 49 + 3 * 343, -1, 0);
        x.constraint(0, 3 + 4 * 7 + 2 * 49 + 3 * 343, -1, 0);
        x.constraint(6, 3, 0, 1);
        x.constraint(0, 2 + 3 * 7 + 4 * 49 + 3 * 343, -1, 0);
        checks.due("13: blame() of a ring", x.blame(), 2 + 4 + 16);
        x.drop(2);
        checks.due("13: blame() of a broken ring", x.blame(), 0);
    }

    private static void blameWithEmptyDomain(int way) {
        DomainSolver x = Solvers.inWay(way);
        x.domain(2, 0);
        checks.due("13: blame() of an empty domain alone", x.blame(), 0);
        x.constraint(7, 0, 1, 0);
        x.constraint(2, 15, 0, 0);
        checks.due("13: blame() of an empty domain", x.blame(), 0);
        x.domain(2, 1);
        checks.due("13: blame() of a domain no longer empty", x.blame(), 1);
    }

    /** Variable 0 can't have two values at once: the last two of ten stay. */
    private static void blameOfTen(int way) {
        DomainSolver x = Solvers.inWay(way);
        for (int i = 0; i < 10; i++) {
            x.constraint(7, 1, 1, i % 6);
        }
        checks.due("13: blame() of ten", x.blame(), 256 + 512);
        x.domain(0, 62 - 8);
        checks.due("13: blame() of ten with 3 gone", x.blame(), 512);
    }
}
