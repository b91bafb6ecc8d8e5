/** All promises at once: long runs of calls, right and wrong ones, whose answers the model knows. */
public final class ModelTest {
    private static final int RUNS = 200;
    // As many as an object is promised to stand.
    private static final int CALLS = 512;
    private static final Checks checks = new Checks();

    public static void main(String[] args) {
        for (int run = 0; run < RUNS && checks.wrong() < 50; run++) {
            Numbers numbers = new Numbers(run);
            DomainSolver x = new DomainSolver();
            Model model = new Model();
            for (int call = 0; call < CALLS; call++) {
                if (numbers.from(0, 2) == 0) {
                    change("run " + run + ", call " + call + ": ", numbers, x, model);
                } else {
                    ask("run " + run + ", call " + call + ": ", numbers, x, model);
                }
            }
        }
        checks.end();
    }

    private static void change(String where, Numbers numbers, DomainSolver x, Model model) {
        int v = numbers.from(-1, 4);
        switch (numbers.from(0, 5)) {
            case 0:
                // Mostly large domains, so that there often are solutions.
                int set = numbers.from(0, 3) == 0 ? numbers.from(-1, 64) : numbers.from(0, 63) | numbers.from(0, 63);
                checks.due(where + "domain(" + v + ", " + set + ")", x.domain(v, set), model.domain(v, set));
                break;
            case 1:
            case 2:
                int[] c = numbers.properConstraint(numbers.from(0, 8));
                if (numbers.from(0, 5) == 0) {
                    c[numbers.from(0, 3)] = numbers.from(-70, 70);
                }
                checks.due(where + "constraint" + java.util.Arrays.toString(c),
                    x.constraint(c[0], c[1], c[2], c[3]), model.constraint(c[0], c[1], c[2], c[3]));
                break;
            case 3:
            case 4:
                int i = numbers.from(-1, 5);
                checks.due(where + "drop(" + i + ")", x.drop(i), model.drop(i));
                break;
            default:
                checks.due(where + "way(" + v + ")", x.way(v), Model.way(v));
        }
    }

    private static void ask(String where, Numbers numbers, DomainSolver x, Model model) {
        int v = numbers.from(0, 9) == 0 ? numbers.from(-1, 4) : numbers.from(0, 3);
        int weighting = numbers.from(0, 9) == 0 ? numbers.from(-2400, 4800) : numbers.from(0, 2400);
        int i = numbers.from(-1, 10);
        switch (numbers.from(0, 9)) {
            case 0:
                checks.due(where + "solvable()", x.solvable(), model.count() > 0);
                break;
            case 1:
                checks.due(where + "first(" + v + ")", x.first(v), model.first(v));
                break;
            case 2:
                checks.due(where + "count()", x.count(), model.count());
                break;
            case 3:
                checks.due(where + "possible(" + v + ")", x.possible(v), model.possible(v));
                break;
            case 4:
                checks.due(where + "least(" + weighting + ")", x.least(weighting), model.least(weighting));
                break;
            case 5:
                checks.due(where + "best(" + weighting + ")", x.best(weighting), model.best(weighting));
                break;
            case 6:
                checks.due(where + "bestOne(" + weighting + ")", x.bestOne(weighting), model.bestOne(weighting));
                break;
            case 7:
                checks.due(where + "needless(" + i + ")", x.needless(i), model.needless(i));
                break;
            case 8:
                checks.due(where + "blame()", x.blame(), model.blame());
                break;
            default:
                int value = numbers.from(-1, 6);
                checks.due(where + "countWith(" + v + ", " + value + ")", x.countWith(v, value), model.countWith(v, value));
        }
    }
}
