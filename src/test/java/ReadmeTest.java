import java.io.IOException;
import java.net.URL;
import java.net.URLClassLoader;
import java.nio.file.Files;
import java.nio.file.Path;
import java.util.ArrayList;
import java.util.List;
import java.util.Set;
import java.util.TreeSet;
import java.util.regex.Matcher;
import java.util.regex.Pattern;
import java.util.stream.Stream;
import javax.tools.ToolProvider;

/**
 * What README.md says is so: its examples are compiled and run, and a call
 * whose comment begins with a number answers it; its list of tests has the
 * files that are there.
 */
public final class ReadmeTest {
    private static final Pattern EXAMPLE = Pattern.compile("```java\n(.*?)```", Pattern.DOTALL);
    private static final Pattern ANSWER = Pattern.compile("(x\\..*\\));\\s*// (-?\\d+)\\b.*");
    private static final Pattern LISTED = Pattern.compile("`([A-Za-z.]+\\.java)`");

    private final List<String> calls = new ArrayList<>();
    private final List<Integer> due = new ArrayList<>();

    public static void main(String[] args) throws IOException, ReflectiveOperationException {
        String readme = Files.readString(Path.of("README.md"));
        Matcher example = EXAMPLE.matcher(readme);
        int count = 0;
        while (example.find()) {
            new ReadmeTest().run(example.group(1));
            count++;
        }
        Check.due("examples", count, 2);
        listIsWhole(readme.substring(readme.indexOf("## Tests")));
        Check.finish();
    }

    private void run(String example) throws IOException, ReflectiveOperationException {
        Path dir = Files.createTempDirectory("readme");
        Path source = dir.resolve("Example.java");
        Files.writeString(source, asClass(example));
        String main = System.getProperty("java.class.path");
        int exit = ToolProvider.getSystemJavaCompiler().run(null, null, null,
                "-cp", main, "-d", dir.toString(), source.toString());
        Check.due("the example compiles", exit, 0);
        if (exit == 0) {
            answersAreDue(dir);
        }
        remove(dir);
    }

    // The example's class loader is another one, so it cannot use Check itself.
    private String asClass(String example) {
        StringBuilder text = new StringBuilder("public final class Example {\n"
                + "public static java.util.List<Integer> answers() {\n"
                + "java.util.List<Integer> all = new java.util.ArrayList<>();\n");
        for (String line : example.split("\n")) {
            Matcher answer = ANSWER.matcher(line);
            if (answer.matches()) {
                calls.add(answer.group(1));
                due.add(Integer.valueOf(answer.group(2)));
                text.append("all.add(").append(answer.group(1)).append(");\n");
            } else {
                text.append(line).append("\n");
            }
        }
        return text.append("return all;\n}\n}\n").toString();
    }

    private void answersAreDue(Path dir) throws IOException, ReflectiveOperationException {
        try (URLClassLoader loader = new URLClassLoader(new URL[] {dir.toUri().toURL()})) {
            List<?> answers = (List<?>) loader.loadClass("Example").getMethod("answers").invoke(null);
            Check.due("answers in the example", answers.size(), due.size());
            Check.due("some answers in the example", due.isEmpty() ? 0 : 1, 1);
            for (int i = 0; i < answers.size(); i++) {
                Check.due("README.md: " + calls.get(i), (Integer) answers.get(i), due.get(i));
            }
        }
    }

    private static void remove(Path dir) throws IOException {
        Files.delete(dir.resolve("Example.java"));
        Files.deleteIfExists(dir.resolve("Example.class"));
        Files.delete(dir);
    }

    private static void listIsWhole(String list) throws IOException {
        Set<String> patterns = new TreeSet<>();
        Matcher listed = LISTED.matcher(list);
        while (listed.find()) {
            patterns.add("\\Q" + listed.group(1).replace("..", "\\E.*\\Q") + "\\E");
        }
        Set<String> unlisted = new TreeSet<>();
        Set<String> unused = new TreeSet<>(patterns);
        try (Stream<Path> files = Files.list(Path.of("src/test/java"))) {
            for (Path file : files.toList()) {
                String name = file.getFileName().toString();
                if (patterns.stream().noneMatch(name::matches)) {
                    unlisted.add(name);
                }
                unused.removeIf(name::matches);
            }
        }
        Check.due("files that README.md does not list: " + unlisted, unlisted.size(), 0);
        Check.due("files that README.md lists and are not there: " + unused, unused.size(), 0);
    }
}
