import java.io.IOException;
import java.lang.reflect.Method;
import java.lang.reflect.Modifier;
import java.nio.file.Files;
import java.nio.file.Path;
import java.util.List;
import java.util.Set;
import java.util.TreeSet;
import java.util.regex.Matcher;
import java.util.regex.Pattern;

/** What README.md's example says of an answer is what the class answers. */
public final class ReadmeTest {
    private static final Path README = Path.of("README.md");
    private static final String NEW_OBJECT = "SoftSolver x = new SoftSolver();";
    private static final Pattern CALL = Pattern.compile("x\\.(\\w+)\\(([^)]*)\\);\\s+// (-?\\d+)(: .+)?");

    private static final Set<String> called = new TreeSet<>();
    private static SoftSolver solver;

    public static void main(String[] args) throws IOException, ReflectiveOperationException {
        List<String> lines = Files.readAllLines(README);
        int first = lines.indexOf("```java") + 1;
        Due.is("the example begins with a new object", lines.get(first).equals(NEW_OBJECT) ? 1 : 0, 1);
        solver = new SoftSolver();
        int line = first + 1;
        while (!lines.get(line).equals("```")) {
            answersAsTold(lines.get(line));
            line++;
        }
        toldOfEachMethod(lines);
        Due.end();
    }

    /** A line in another form could tell an answer that nothing compares. */
    private static void answersAsTold(String line) throws ReflectiveOperationException {
        Matcher call = CALL.matcher(line);
        boolean inForm = call.matches();
        Due.is("a call with its answer: " + line, inForm ? 1 : 0, 1);
        if (inForm) {
            called.add(call.group(1));
            Due.is(line, answer(call.group(1), call.group(2)), Integer.parseInt(call.group(3)));
        }
    }

    private static int answer(String name, String arguments) throws ReflectiveOperationException {
        if (arguments.isEmpty()) {
            return (int) SoftSolver.class.getMethod(name).invoke(solver);
        }
        String[] parts = arguments.split(",");
        if (parts.length == 1) {
            return (int) SoftSolver.class.getMethod(name, int.class).invoke(solver, sum(parts[0]));
        }
        Method method = SoftSolver.class.getMethod(name, int.class, int.class);
        return (int) method.invoke(solver, sum(parts[0]), sum(parts[1]));
    }

    private static int sum(String terms) {
        int sum = 0;
        for (String term : terms.split("\\+")) {
            sum += Integer.parseInt(term.strip());
        }
        return sum;
    }

    private static void toldOfEachMethod(List<String> lines) {
        for (Method method : SoftSolver.class.getDeclaredMethods()) {
            if (Modifier.isPublic(method.getModifiers())) {
                String name = method.getName();
                boolean row = lines.stream().anyMatch(line -> line.startsWith("| `" + name + "("));
                Due.is("README.md has a row for " + name, row ? 1 : 0, 1);
                Due.is("README.md calls " + name, called.contains(name) ? 1 : 0, 1);
            }
        }
    }
}
