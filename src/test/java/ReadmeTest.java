import java.io.IOException;
import java.lang.reflect.Method;
import java.lang.reflect.Modifier;
import java.lang.reflect.Parameter;
import java.net.URL;
import java.net.URLClassLoader;
import java.nio.file.Files;
import java.nio.file.Path;
import java.util.ArrayList;
import java.util.List;
import java.util.regex.Matcher;
import java.util.regex.Pattern;

/**
 * README.md says how to use the class: its example compiles and answers as it says at the end of each row, and its
 * table has every call with as many arguments as the class asks for. It is run from the project's folder.
 */
public final class ReadmeTest {
    private static final Path README = Path.of("README.md");
    private static final Pattern ANSWERED = Pattern.compile("(int (\\w+) = )?(mesh\\.\\w+\\(.*\\)); *// (-?\\d+)(:.*)?");
    private static final Pattern UNANSWERED = Pattern.compile("mesh\\.end\\(.*|MeshLodger mesh = .*|//.*| *");
    private static final int FEWEST_ANSWERS = 30;

    private static int wrong = 0;
    private static int answers = 0;

    public static void main(String[] args) throws IOException, InterruptedException {
        List<String> rows = Files.readAllLines(README);
        table(rows);
        example(rows);
        if (answers < FEWEST_ANSWERS) {
            fault("the example has but " + answers + " answers");
        }
        System.out.println(wrong == 0 ? "README.md is as the class is" : wrong + " faults of README.md");
        System.exit(wrong == 0 ? 0 : 1);
    }

    /** What the example's program calls with each answer. */
    public static void due(String row, int got, int due) {
        answers++;
        if (got != due) {
            fault(row + " answered " + got);
        }
    }

    private static void fault(String what) {
        wrong++;
        System.out.println(README + ": " + what);
    }

    private static void table(List<String> rows) {
        for (Method method : MeshLodger.class.getDeclaredMethods()) {
            if (Modifier.isPublic(method.getModifiers())) {
                List<String> arguments = new ArrayList<>();
                for (Parameter parameter : method.getParameters()) {
                    arguments.add(parameter.isNamePresent() ? parameter.getName() : "\\w+");
                }
                String call = "\\| `" + method.getName() + "\\(" + String.join(", ", arguments) + "\\)` \\| .+ \\|";
                if (rows.stream().noneMatch(row -> row.matches(call))) {
                    fault("the table has no call " + method.getName());
                }
            }
        }
    }

    private static void example(List<String> rows) throws IOException, InterruptedException {
        StringBuilder program = new StringBuilder("final class Example {\n    public static void main(String[] args) {\n");
        int end = rows.indexOf("```java") + 1;
        while (end < rows.size() && !rows.get(end).equals("```")) {
            program.append(checked(rows.get(end))).append('\n');
            end++;
        }
        run(program.append("    }\n}\n").toString());
    }

    private static String checked(String row) {
        Matcher answered = ANSWERED.matcher(row);
        if (!answered.matches()) {
            if (!UNANSWERED.matcher(row).matches()) {
                fault("a row of the example without its answer: " + row);
            }
            return row;
        }
        String call = answered.group(3);
        String kept = answered.group(1) == null ? "" : answered.group(1) + call + "; ";
        String value = answered.group(1) == null ? call : answered.group(2);
        return kept + "ReadmeTest.due(\"" + row.replace("\"", "\\\"") + "\", " + value + ", " + answered.group(4) + ");";
    }

    private static void run(String program) throws IOException, InterruptedException {
        Path folder = Files.createTempDirectory("readme");
        Path source = folder.resolve("Example.java");
        try {
            Files.writeString(source, program);
            Process javac = new ProcessBuilder("javac", "-cp", System.getProperty("java.class.path"),
                    "-d", folder.toString(), source.toString()).inheritIO().start();
            if (javac.waitFor() != 0) {
                fault("the example does not compile");
                return;
            }
            call(folder);
        } finally {
            Files.deleteIfExists(folder.resolve("Example.class"));
            Files.deleteIfExists(source);
            Files.deleteIfExists(folder);
        }
    }

    private static void call(Path folder) throws IOException {
        try (URLClassLoader loader = new URLClassLoader(new URL[] {folder.toUri().toURL()})) {
            Method main = loader.loadClass("Example").getMethod("main", String[].class);
            main.setAccessible(true);
            main.invoke(null, (Object) new String[0]);
        } catch (ReflectiveOperationException e) {
            fault("the example threw " + e.getCause());
        }
    }
}
