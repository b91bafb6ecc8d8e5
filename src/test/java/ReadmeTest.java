import java.lang.reflect.Method;
import java.lang.reflect.Modifier;
import java.nio.file.DirectoryStream;
import java.nio.file.Files;
import java.nio.file.Path;
import java.util.ArrayList;
import java.util.List;
import java.util.Set;
import java.util.TreeSet;
import java.util.regex.Matcher;
import java.util.regex.Pattern;

/** README.md: its calls are answered as it says, and it names every method and every test. */
public final class ReadmeTest {
    private static final Pattern CALL = Pattern.compile("x\\.(\\w+)\\((.*)\\); *// (-?\\w+): .*");
    private static final Pattern TEST_ROW = Pattern.compile("\\| `(\\w+)` \\| .*");
    private static final Checks checks = new Checks();

    public static void main(String[] args) throws Exception {
        List<String> lines = Files.readAllLines(Path.of("README.md"));
        Set<String> called = callsAnsweredAsItSays(example(lines));
        everyMethodIsCalled(called);
        everyTestIsNamed(lines);
        checks.end();
    }

    /** The lines of the block of Java, but for the first one, which makes the object. */
    private static List<String> example(List<String> lines) {
        int start = lines.indexOf("```java") + 1;
        List<String> rest = lines.subList(start, lines.size());
        List<String> block = rest.subList(0, rest.indexOf("```"));
        checks.due("README.md makes an object", block.get(0).equals("DomainSolver x = new DomainSolver();"), true);
        return block.subList(1, block.size());
    }

    private static Set<String> callsAnsweredAsItSays(List<String> example) throws Exception {
        Set<String> called = new TreeSet<>();
        DomainSolver x = new DomainSolver();
        for (String line : example) {
            Matcher call = CALL.matcher(line);
            boolean isCall = call.matches();
            checks.due("README.md: a call with its answer: " + line, isCall, true);
            if (isCall) {
                called.add(call.group(1));
                checks.due("README.md: " + line, answer(x, call.group(1), call.group(2)), number(call.group(3)));
            }
        }
        return called;
    }

    private static int answer(DomainSolver x, String name, String numbers) throws Exception {
        List<Class<?>> types = new ArrayList<>();
        List<Object> arguments = new ArrayList<>();
        if (!numbers.isEmpty()) {
            for (String number : numbers.split(", ")) {
                types.add(int.class);
                arguments.add(number(number));
            }
        }
        Method method = DomainSolver.class.getMethod(name, types.toArray(new Class<?>[0]));
        return number(method.invoke(x, arguments.toArray()).toString());
    }

    private static int number(String text) {
        switch (text) {
            case "false":
                return 0;
            case "true":
                return 1;
            case "BAD":
                return DomainSolver.BAD;
            case "NONE":
                return DomainSolver.NONE;
            default:
                return text.startsWith("0b") ? Integer.parseInt(text.substring(2), 2) : Integer.parseInt(text);
        }
    }

    private static void everyMethodIsCalled(Set<String> called) {
        for (Method method : DomainSolver.class.getDeclaredMethods()) {
            if (Modifier.isPublic(method.getModifiers())) {
                checks.due("README.md shows " + method.getName(), called.contains(method.getName()), true);
            }
        }
    }

    private static void everyTestIsNamed(List<String> lines) throws Exception {
        Set<String> named = new TreeSet<>();
        for (String line : lines) {
            Matcher row = TEST_ROW.matcher(line);
            if (row.matches()) {
                named.add(row.group(1));
            }
        }
        try (DirectoryStream<Path> tests = Files.newDirectoryStream(Path.of("src/test/java"), "*Test.java")) {
            for (Path test : tests) {
                String name = test.getFileName().toString().replace(".java", "");
                checks.due("README.md names " + name, named.remove(name), true);
            }
        }
        for (String name : named) {
            checks.due("README.md names " + name + ", which isn't there", true, false);
        }
    }
}
