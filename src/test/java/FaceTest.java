import java.lang.reflect.Constructor;
import java.lang.reflect.Field;
import java.lang.reflect.Member;
import java.lang.reflect.Method;
import java.lang.reflect.Modifier;
import java.util.Set;
import java.util.TreeSet;

/** The public face: just the members of the document, and nothing else that is not private. */
public final class FaceTest {
    private static final String[] FACE = {
        "public DomainSolver()",
        "public static final int DomainSolver.BAD",
        "public static final int DomainSolver.FULL",
        "public static final int DomainSolver.NONE",
        "public boolean DomainSolver.domain(int,int)",
        "public int DomainSolver.constraint(int,int,int,int)",
        "public int DomainSolver.drop(int)",
        "public boolean DomainSolver.solvable()",
        "public int DomainSolver.first(int)",
        "public int DomainSolver.count()",
        "public int DomainSolver.possible(int)",
        "public int DomainSolver.least(int)",
        "public int DomainSolver.best(int)",
        "public int DomainSolver.bestOne(int)",
        "public boolean DomainSolver.needless(int)",
        "public int DomainSolver.blame()",
        "public int DomainSolver.countWith(int,int)",
        "public boolean DomainSolver.way(int)",
    };

    public static void main(String[] args) {
        Checks checks = new Checks();
        checks.due("BAD", DomainSolver.BAD, -1000);
        checks.due("FULL", DomainSolver.FULL, -1001);
        checks.due("NONE", DomainSolver.NONE, -1002);
        checks.due("the class is public and final", DomainSolver.class.getModifiers(), Modifier.PUBLIC | Modifier.FINAL);

        Set<String> seen = visibleMembers();
        for (String member : FACE) {
            checks.due("has " + member, seen.remove(member), true);
        }
        for (String member : seen) {
            checks.due("has " + member, true, false);
        }
        checks.due("nested classes", DomainSolver.class.getDeclaredClasses().length, 0);
        checks.end();
    }

    private static Set<String> visibleMembers() {
        Set<String> seen = new TreeSet<>();
        for (Constructor<?> c : DomainSolver.class.getDeclaredConstructors()) {
            addVisible(seen, c, c.toString());
        }
        for (Method m : DomainSolver.class.getDeclaredMethods()) {
            addVisible(seen, m, m.toString());
        }
        for (Field f : DomainSolver.class.getDeclaredFields()) {
            addVisible(seen, f, f.toString());
        }
        return seen;
    }

    private static void addVisible(Set<String> seen, Member member, String text) {
        if (!Modifier.isPrivate(member.getModifiers())) {
            seen.add(text);
        }
    }
}
