import java.lang.reflect.Method;
import java.lang.reflect.Modifier;
import java.nio.file.Files;
import java.nio.file.Path;
import java.util.Set;
import java.util.TreeSet;
import java.util.regex.Matcher;
import java.util.regex.Pattern;

/** README.md tells a user what is so: its example is carried out, and no call is left out. */
public final class ReadmeTest {
    private static final Pattern EXAMPLE = Pattern.compile("(?s)```java\n(.*?)```");
    private static final String MADE = "TransactionalMaps maps = new TransactionalMaps(0);";
    private static final Pattern CALL = Pattern.compile("maps\\.(\\w+)\\(([^()]*)\\); +// ([\\w-]+)(: .*)?");
    private static final Pattern ROW = Pattern.compile("(?m)^\\| `(\\w+)\\(([^()]*)\\)` \\|");

    private static final Checks CHECKS = new Checks();

    /** The name of a call with the number of its arguments, as put/3. */
    private static String call(String name, String arguments) {
        return name + "/" + arguments.split(",").length;
    }

    private static Set<String> callsOfTheClass() {
        Set<String> calls = new TreeSet<>();
        for (Method method : TransactionalMaps.class.getDeclaredMethods()) {
            if (Modifier.isPublic(method.getModifiers())) {
                calls.add(method.getName() + "/" + method.getParameterCount());
            }
        }
        return calls;
    }

    private static void checkExample(String readme) {
        CHECKS.startPart("the example of README.md");
        Matcher example = EXAMPLE.matcher(readme);
        String text = example.find() ? example.group(1) : "";
        StringBuilder script = new StringBuilder();
        Set<String> shown = new TreeSet<>();
        int made = 0;
        for (String line : text.lines().toList()) {
            Matcher call = CALL.matcher(line);
            if (call.matches()) {
                shown.add(call(call.group(1), call.group(2)));
                script.append(call.group(1) + " " + call.group(2).replace(",", "") + " -> " + call.group(3) + "\n");
            } else if (line.equals(MADE)) {
                made++;
            } else {
                CHECKS.due(line + " is a call with its answer", true, line.isBlank() || line.startsWith("//"));
            }
        }
        CHECKS.due("objects made", 1, made);
        CHECKS.due("the calls", callsOfTheClass().toString(), shown.toString());
        new Script(CHECKS, 0).run(script.toString());
    }

    private static void checkTable(String readme) {
        CHECKS.startPart("the table of README.md");
        Set<String> told = new TreeSet<>();
        Matcher row = ROW.matcher(readme);
        while (row.find()) {
            told.add(call(row.group(1), row.group(2)));
        }
        CHECKS.due("the calls", callsOfTheClass().toString(), told.toString());
    }

    private static void checkCommand(String readme) {
        CHECKS.startPart("the command of README.md");
        CHECKS.due(".ci/run is told", true, readme.contains("```sh\n.ci/run\n```"));
        CHECKS.due(".ci/run can be run", true, Files.isExecutable(Path.of(".ci/run")));
    }

    public static void main(String[] args) throws Exception {
        String readme = Files.readString(Path.of("README.md"));
        checkExample(readme);
        checkTable(readme);
        checkCommand(readme);
        CHECKS.end();
    }
}
