import java.util.ArrayList;
import java.util.List;

/** The document's words once more, as simply as they can be written: what DomainSolver is compared with. */
final class Model {
    final int[] domains = {63, 63, 63, 63};
    final List<int[]> constraints = new ArrayList<>();

    boolean domain(int v, int set) {
        if (v < 0 || v > 3 || set < 0 || set > 63) {
            return false;
        }
        domains[v] = set;
        return true;
    }

    int constraint(int kind, int p, int q, int r) {
        if (constraints.size() == 10) {
            return DomainSolver.FULL;
        }
        if (!proper(kind, p, q, r)) {
            return DomainSolver.BAD;
        }
        constraints.add(new int[] {kind, p, q, r});
        return constraints.size();
    }

    int drop(int i) {
        if (i < 0 || i >= constraints.size()) {
            return DomainSolver.BAD;
        }
        constraints.remove(i);
        return constraints.size();
    }

    int first(int v) {
        if (v < 0 || v > 3) {
            return DomainSolver.BAD;
        }
        List<int[]> all = solutions(constraints);
        return all.isEmpty() ? DomainSolver.NONE : all.get(0)[v];
    }

    int count() {
        return solutions(constraints).size();
    }

    int possible(int v) {
        if (v < 0 || v > 3) {
            return DomainSolver.BAD;
        }
        return solutions(constraints).stream().mapToInt(s -> 1 << s[v]).reduce(0, (a, b) -> a | b);
    }

    int least(int weighting) {
        if (weighting < 0 || weighting > 2400) {
            return DomainSolver.BAD;
        }
        return solutions(constraints).stream().mapToInt(s -> sum(weighting, s)).min().orElse(DomainSolver.NONE);
    }

    int best(int weighting) {
        int least = least(weighting);
        if (least == DomainSolver.BAD) {
            return DomainSolver.BAD;
        }
        return (int) solutions(constraints).stream().filter(s -> sum(weighting, s) == least).count();
    }

    int bestOne(int weighting) {
        int least = least(weighting);
        if (least == DomainSolver.BAD || least == DomainSolver.NONE) {
            return least;
        }
        int[] s = solutions(constraints).stream().filter(t -> sum(weighting, t) == least).findFirst().get();
        return s[0] * 216 + s[1] * 36 + s[2] * 6 + s[3];
    }

    boolean needless(int i) {
        if (i < 0 || i >= constraints.size()) {
            return false;
        }
        List<int[]> others = new ArrayList<>(constraints);
        others.remove(i);
        return solutions(others).stream().allMatch(s -> holds(constraints.get(i), s));
    }

    int blame() {
        if (count() > 0) {
            return 0;
        }
        List<int[]> left = new ArrayList<>(constraints);
        for (int[] c : constraints) {
            List<int[]> without = new ArrayList<>(left);
            without.removeIf(d -> d == c);
            if (solutions(without).isEmpty()) {
                left = without;
            }
        }
        int set = 0;
        for (int[] c : left) {
            set += 1 << constraints.indexOf(c);
        }
        return set;
    }

    int countWith(int v, int x) {
        if (v < 0 || v > 3 || x < 0 || x > 5) {
            return DomainSolver.BAD;
        }
        return (int) solutions(constraints).stream().filter(s -> s[v] == x).count();
    }

    static boolean way(int k) {
        return k == 0 || k == 1 || k == 2;
    }

    List<int[]> solutions(List<int[]> wanted) {
        List<int[]> all = new ArrayList<>();
        for (int a = 0; a < 6; a++) {
            for (int b = 0; b < 6; b++) {
                for (int c = 0; c < 6; c++) {
                    for (int d = 0; d < 6; d++) {
                        int[] values = {a, b, c, d};
                        if (inDomains(values) && wanted.stream().allMatch(w -> holds(w, values))) {
                            all.add(values);
                        }
                    }
                }
            }
        }
        return all;
    }

    private boolean inDomains(int[] values) {
        for (int v = 0; v < 4; v++) {
            if ((domains[v] & (1 << values[v])) == 0) {
                return false;
            }
        }
        return true;
    }

    static int sum(int weighting, int[] x) {
        return (weighting % 7 - 3) * x[0] + (weighting / 7 % 7 - 3) * x[1]
            + (weighting / 49 % 7 - 3) * x[2] + (weighting / 343 - 3) * x[3];
    }

    static boolean holds(int[] constraint, int[] x) {
        int p = constraint[1];
        int q = constraint[2];
        int r = constraint[3];
        switch (constraint[0]) {
            case 0:
                return sum(p, x) <= q;
            case 1:
                return sum(p, x) == q;
            case 2:
                for (int v = 0; v < 4; v++) {
                    for (int w = 0; w < v; w++) {
                        if ((p & 1 << v) != 0 && (p & 1 << w) != 0 && x[v] == x[w]) {
                            return false;
                        }
                    }
                }
                return true;
            case 3:
                return x[p] == r / (int) Math.pow(6, x[q]) % 6;
            case 4:
                return x[p] * x[q] == x[r];
            case 5:
                boolean has = x[p / 6] == p % 6;
                boolean atLeast = x[q / 6] >= q % 6;
                return has && atLeast || !has && !atLeast;
            case 6:
                return Math.abs(x[p] - x[q]) >= r;
            case 7:
                return java.util.stream.IntStream.range(0, 4).filter(v -> (p & 1 << v) != 0 && x[v] == r).count() == q;
            default:
                return x[p] < x[q] || x[p] == x[q] && x[r % 4] <= x[r / 4];
        }
    }

    private static boolean proper(int kind, int p, int q, int r) {
        int[][] bounds = {
            {2400, -60, 60, -1}, {2400, -60, 60, -1}, {15, 0, -1, -1}, {3, 0, 3, 46655}, {3, 0, 3, 3},
            {23, 0, 23, -1}, {3, 0, 3, 5}, {15, 0, 4, 5}, {3, 0, 3, 15},
        };
        if (kind < 0 || kind > 8) {
            return false;
        }
        int[] b = bounds[kind];
        boolean pFits = p >= 0 && p <= b[0];
        boolean qFits = b[2] < 0 || q >= b[1] && q <= b[2];
        boolean rFits = b[3] < 0 || r >= 0 && r <= b[3];
        return pFits && qFits && rFits;
    }
}
