import java.io.IOException;
import java.lang.reflect.InvocationTargetException;
import java.net.URL;
import java.net.URLClassLoader;
import java.nio.file.Files;
import java.nio.file.Path;
import java.util.ArrayList;
import java.util.List;
import java.util.regex.Matcher;
import java.util.regex.Pattern;
import javax.tools.ToolProvider;

/** The example of README.md compiles, and each answer is the one that its comment begins with. */
public final class ReadmeTest {
    private static final String FENCE = "```";
    private static final Pattern ANSWER = Pattern.compile("(int|boolean) (\\w+) = .*; +// (-?\\d+|true|false)\\b.*");

    public static void main(String[] args) throws Exception {
        List<String> example = exampleOf(Files.readAllLines(Path.of("README.md")));
        List<String> names = new ArrayList<>();
        List<String> due = new ArrayList<>();
        for (String line : example) {
            Matcher told = ANSWER.matcher(line);
            if (told.matches()) {
                names.add(told.group(2));
                due.add(told.group(3));
            } else {
                Check.is("an answer without its comment: " + line, line.matches("(int|boolean) .*"), false);
            }
        }
        Check.is("README.md has an example with answers", due.isEmpty(), false);
        Check.same("the answers " + names, answersOf(example, names).toString(), due.toString());
        Check.end();
    }

    private static List<String> exampleOf(List<String> lines) {
        int from = lines.indexOf(FENCE + "java");
        int to = from < 0 ? -1 : from + lines.subList(from, lines.size()).indexOf(FENCE);
        return to <= from ? List.of() : lines.subList(from + 1, to);
    }

    private static List<Object> answersOf(List<String> example, List<String> names) throws Exception {
        Path place = Files.createTempDirectory("readme");
        try {
            String program = "public final class Example {\n    public static java.util.List<Object> answers() {\n"
                    + String.join("\n", example) + "\n        return java.util.Arrays.asList("
                    + String.join(", ", names) + ");\n    }\n}\n";
            Path source = Files.writeString(place.resolve("Example.java"), program);
            int failed = ToolProvider.getSystemJavaCompiler().run(null, null, null, "-cp",
                    System.getProperty("java.class.path"), "-d", place.toString(), source.toString());
            Check.eq("javac of the example", failed, 0);
            return failed == 0 ? run(place) : List.of();
        } finally {
            empty(place);
        }
    }

    private static List<Object> run(Path place) throws Exception {
        try (URLClassLoader loader = new URLClassLoader(new URL[] {place.toUri().toURL()})) {
            Object answers = loader.loadClass("Example").getMethod("answers").invoke(null);
            return new ArrayList<>((List<?>) answers);
        } catch (InvocationTargetException e) {
            return List.of("threw " + e.getCause());
        }
    }

    private static void empty(Path place) throws IOException {
        try (var files = Files.newDirectoryStream(place)) {
            for (Path file : files) {
                Files.delete(file);
            }
        }
        Files.delete(place);
    }
}
