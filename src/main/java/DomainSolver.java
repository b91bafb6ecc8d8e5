/** Constraints over a few variables with small values: solutions, how many, the best one, and what is to blame. */
public final class DomainSolver {
    public static final int BAD = -1000;
    public static final int FULL = -1001;
    public static final int NONE = -1002;

    private static final int VARIABLES = 4;
    private static final int VALUES = 6;
    private static final int ALL_VALUES = 63;
    private static final int ALL_VARIABLES = 15;
    private static final int ASSIGNMENTS = 1296;
    private static final int MOST_CONSTRAINTS = 10;

    private static final int WEIGHT_BASE = 7;
    private static final int ZERO_WEIGHT = 3;
    private static final int LAST_WEIGHTING = 2400;
    private static final int GREATEST_SUM = 60;
    private static final int LAST_DIGITS = 46655;

    private static final int SUM_AT_MOST = 0;
    private static final int SUM_EQUAL = 1;
    private static final int DIFFERENT = 2;
    private static final int DIGIT = 3;
    private static final int PRODUCT = 4;
    private static final int EXACTLY_IF = 5;
    private static final int APART = 6;
    private static final int OCCURRENCES = 7;
    private static final int ORDERED = 8;

    private static final int ONE_BY_ONE = 0;
    private static final int SKIP_BY_DOMAINS = 1;
    private static final int SKIP_BY_CONSTRAINTS = 2;

    private static final int NOTHING = 0;

    private final int[] domains = new int[VARIABLES];

    private final int[] kinds = new int[MOST_CONSTRAINTS];
    private final int[] ps = new int[MOST_CONSTRAINTS];
    private final int[] qs = new int[MOST_CONSTRAINTS];
    private final int[] rs = new int[MOST_CONSTRAINTS];
    private int constraints;

    private int chosenWay;

    // The assignment that is looked at just now.
    private final int[] values = new int[VARIABLES];

    // Assignments as numbers to base 6, variable 0 the highest digit: so the order of numbers is that of assignments.
    private final int[] solutions = new int[ASSIGNMENTS];
    private int found;

    public DomainSolver() {
        for (int v = 0; v < VARIABLES; v++) {
            domains[v] = ALL_VALUES;
        }
        constraints = 0;
        chosenWay = SKIP_BY_CONSTRAINTS;
        found = 0;
    }

    public boolean domain(int v, int set) {
        if (!isVariable(v) || !isWithin(set, 0, ALL_VALUES)) {
            return false;
        }
        domains[v] = set;
        return true;
    }

    public int constraint(int kind, int p, int q, int r) {
        if (constraints >= MOST_CONSTRAINTS) {
            return FULL;
        }
        if (!isProper(kind, p, q, r)) {
            return BAD;
        }
        kinds[constraints] = kind;
        ps[constraints] = p;
        qs[constraints] = q;
        rs[constraints] = r;
        constraints++;
        return constraints;
    }

    public int drop(int i) {
        if (!isConstraint(i)) {
            return BAD;
        }
        constraints--;
        for (int k = i; k < constraints; k++) {
            kinds[k] = kinds[k + 1];
            ps[k] = ps[k + 1];
            qs[k] = qs[k + 1];
            rs[k] = rs[k + 1];
        }
        return constraints;
    }

    public boolean solvable() {
        findSolutions(NOTHING);
        return found > 0;
    }

    public int first(int v) {
        if (!isVariable(v)) {
            return BAD;
        }
        findSolutions(NOTHING);
        if (found == 0) {
            return NONE;
        }
        lookAt(solutions[0]);
        return values[v];
    }

    public int count() {
        findSolutions(NOTHING);
        return found;
    }

    public int possible(int v) {
        if (!isVariable(v)) {
            return BAD;
        }
        findSolutions(NOTHING);
        int set = 0;
        for (int i = 0; i < found; i++) {
            lookAt(solutions[i]);
            set |= 1 << values[v];
        }
        return set;
    }

    public int least(int weighting) {
        if (!isWeighting(weighting)) {
            return BAD;
        }
        findSolutions(NOTHING);
        keepSmallest(weighting);
        if (found == 0) {
            return NONE;
        }
        lookAt(solutions[0]);
        return sumUnder(weighting);
    }

    public int best(int weighting) {
        if (!isWeighting(weighting)) {
            return BAD;
        }
        findSolutions(NOTHING);
        keepSmallest(weighting);
        return found;
    }

    public int bestOne(int weighting) {
        if (!isWeighting(weighting)) {
            return BAD;
        }
        findSolutions(NOTHING);
        keepSmallest(weighting);
        return found == 0 ? NONE : solutions[0];
    }

    public boolean needless(int i) {
        if (!isConstraint(i)) {
            return false;
        }
        findSolutions(NOTHING);
        int withIt = found;
        // Leaving a constraint out only adds solutions, so as many means the same ones.
        findSolutions(1 << i);
        return found == withIt;
    }

    public int blame() {
        findSolutions(NOTHING);
        if (found > 0) {
            return 0;
        }
        int leftOut = NOTHING;
        int blamed = 0;
        for (int i = 0; i < constraints; i++) {
            findSolutions(leftOut | 1 << i);
            if (found == 0) {
                leftOut |= 1 << i;
            } else {
                blamed |= 1 << i;
            }
        }
        return blamed;
    }

    public int countWith(int v, int x) {
        if (!isVariable(v) || !isWithin(x, 0, VALUES - 1)) {
            return BAD;
        }
        findSolutions(NOTHING);
        int with = 0;
        for (int i = 0; i < found; i++) {
            lookAt(solutions[i]);
            if (values[v] == x) {
                with++;
            }
        }
        return with;
    }

    public boolean way(int k) {
        if (!isWithin(k, ONE_BY_ONE, SKIP_BY_CONSTRAINTS)) {
            return false;
        }
        chosenWay = k;
        return true;
    }

    private static boolean isWithin(int number, int low, int high) {
        return low <= number && number <= high;
    }

    private static boolean isVariable(int v) {
        return isWithin(v, 0, VARIABLES - 1);
    }

    private static boolean isVariableSet(int set) {
        return isWithin(set, 0, ALL_VARIABLES);
    }

    private static boolean isVariableAndValue(int pair) {
        return isWithin(pair, 0, VARIABLES * VALUES - 1);
    }

    private static boolean isWeighting(int weighting) {
        return isWithin(weighting, 0, LAST_WEIGHTING);
    }

    private boolean isConstraint(int i) {
        return isWithin(i, 0, constraints - 1);
    }

    private static boolean isProper(int kind, int p, int q, int r) {
        switch (kind) {
            case SUM_AT_MOST:
            case SUM_EQUAL:
                return isWeighting(p) && isWithin(q, -GREATEST_SUM, GREATEST_SUM);
            case DIFFERENT:
                return isVariableSet(p);
            case DIGIT:
                return isVariable(p) && isVariable(q) && isWithin(r, 0, LAST_DIGITS);
            case PRODUCT:
                return isVariable(p) && isVariable(q) && isVariable(r);
            case EXACTLY_IF:
                return isVariableAndValue(p) && isVariableAndValue(q);
            case APART:
                return isVariable(p) && isVariable(q) && isWithin(r, 0, VALUES - 1);
            case OCCURRENCES:
                return isVariableSet(p) && isWithin(q, 0, VARIABLES) && isWithin(r, 0, VALUES - 1);
            case ORDERED:
                return isVariable(p) && isVariable(q) && isWithin(r, 0, VARIABLES * VARIABLES - 1);
            default:
                return false;
        }
    }

    /** Lists, in their order, the solutions of all constraints but those of the set leftOut. */
    private void findSolutions(int leftOut) {
        found = 0;
        int next = 0;
        for (int code = 0; code < ASSIGNMENTS; code++) {
            if (code < next) {
                continue;
            }
            lookAt(code);
            int stuck = stuckAt(leftOut);
            if (stuck == VARIABLES) {
                solutions[found] = code;
                found++;
            } else {
                next = nextWithOtherValue(code, stuck);
            }
        }
    }

    /**
     * The variable whose value must change before a solution can come, VARIABLES if this is one.
     * The ways differ in how far ahead that lets the search skip: naming the last variable is always right.
     */
    private int stuckAt(int leftOut) {
        int stuck = VARIABLES;
        for (int v = VARIABLES - 1; v >= 0; v--) {
            if ((domains[v] >> values[v] & 1) == 0) {
                stuck = chosenWay >= SKIP_BY_DOMAINS ? v : VARIABLES - 1;
            }
        }
        for (int i = 0; i < constraints; i++) {
            int last = chosenWay >= SKIP_BY_CONSTRAINTS ? lastVariable(i) : VARIABLES - 1;
            if ((leftOut >> i & 1) == 0 && last < stuck && !holds(i)) {
                stuck = last;
            }
        }
        return stuck;
    }

    /** The first assignment after this one in which variable v or one before it has another value. */
    private static int nextWithOtherValue(int code, int v) {
        int block = 1;
        for (int k = v + 1; k < VARIABLES; k++) {
            block *= VALUES;
        }
        return code - code % block + block;
    }

    /** The last variable whose value constraint i depends on; 0 if it depends on none. */
    private int lastVariable(int i) {
        int set = variablesOf(i);
        int last = 0;
        for (int v = 1; v < VARIABLES; v++) {
            if ((set >> v & 1) != 0) {
                last = v;
            }
        }
        return last;
    }

    private int variablesOf(int i) {
        int p = ps[i];
        int q = qs[i];
        int r = rs[i];
        switch (kinds[i]) {
            case DIFFERENT:
            case OCCURRENCES:
                return p;
            case DIGIT:
            case APART:
                return 1 << p | 1 << q;
            case PRODUCT:
                return 1 << p | 1 << q | 1 << r;
            case EXACTLY_IF:
                return 1 << p / VALUES | 1 << q / VALUES;
            case ORDERED:
                return 1 << p | 1 << q | 1 << r % VARIABLES | 1 << r / VARIABLES;
            default:
                return ALL_VARIABLES;
        }
    }

    /** Of the solutions found, keeps those with the smallest sum, in their order. */
    private void keepSmallest(int weighting) {
        int smallest = GREATEST_SUM;
        int kept = 0;
        for (int i = 0; i < found; i++) {
            int code = solutions[i];
            lookAt(code);
            int sum = sumUnder(weighting);
            if (sum < smallest) {
                smallest = sum;
                kept = 0;
            }
            if (sum == smallest) {
                solutions[kept] = code;
                kept++;
            }
        }
        found = kept;
    }

    private void lookAt(int code) {
        int rest = code;
        for (int v = VARIABLES - 1; v >= 0; v--) {
            values[v] = rest % VALUES;
            rest /= VALUES;
        }
    }

    private boolean holds(int i) {
        int p = ps[i];
        int q = qs[i];
        int r = rs[i];
        switch (kinds[i]) {
            case SUM_AT_MOST:
                return sumUnder(p) <= q;
            case SUM_EQUAL:
                return sumUnder(p) == q;
            case DIFFERENT:
                return areDifferent(p);
            case DIGIT:
                return values[p] == digitOf(r, values[q]);
            case PRODUCT:
                return values[p] * values[q] == values[r];
            case EXACTLY_IF:
                return (values[p / VALUES] == p % VALUES) == (values[q / VALUES] >= q % VALUES);
            case APART:
                return values[p] - values[q] >= r || values[q] - values[p] >= r;
            case OCCURRENCES:
                return occurrences(p, r) == q;
            case ORDERED:
                return values[p] < values[q]
                    || values[p] == values[q] && values[r % VARIABLES] <= values[r / VARIABLES];
            default:
                return false;
        }
    }

    private int sumUnder(int weighting) {
        int rest = weighting;
        int sum = 0;
        for (int v = 0; v < VARIABLES; v++) {
            sum += (rest % WEIGHT_BASE - ZERO_WEIGHT) * values[v];
            rest /= WEIGHT_BASE;
        }
        return sum;
    }

    private boolean areDifferent(int set) {
        int seen = 0;
        for (int v = 0; v < VARIABLES; v++) {
            if ((set >> v & 1) != 0) {
                if ((seen >> values[v] & 1) != 0) {
                    return false;
                }
                seen |= 1 << values[v];
            }
        }
        return true;
    }

    private static int digitOf(int digits, int number) {
        int rest = digits;
        for (int k = 0; k < number; k++) {
            rest /= VALUES;
        }
        return rest % VALUES;
    }

    private int occurrences(int set, int x) {
        int times = 0;
        for (int v = 0; v < VARIABLES; v++) {
            if ((set >> v & 1) != 0 && values[v] == x) {
                times++;
            }
        }
        return times;
    }
}
