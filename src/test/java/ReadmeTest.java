import java.io.IOException;
import java.lang.reflect.Method;
import java.lang.reflect.Modifier;
import java.net.URL;
import java.net.URLClassLoader;
import java.nio.file.Files;
import java.nio.file.Path;
import java.util.Comparator;
import java.util.List;
import java.util.regex.Matcher;
import java.util.regex.Pattern;
import java.util.stream.Collectors;
import java.util.stream.Stream;
import javax.tools.ToolProvider;

/** Compiles and runs the examples of README.md: each call must give the answer told behind it. */
public final class ReadmeTest {
    private static final Path README = Path.of("README.md");
    private static final String NAME = "ReadmeExamples";
    private static int wrong = 0;
    private static int rows = 0;

    public static void main(String[] args) throws Exception {
        String readme = Files.readString(README);
        everyCallIsShown(readme);
        Path directory = Files.createTempDirectory("readme");
        try {
            run(directory, sourceOf(readme));
        } finally {
            remove(directory);
        }
        System.out.println(rows + " answers of README.md looked at, " + wrong + " not as told");
        if (wrong != 0 || rows == 0) {
            System.exit(1);
        }
    }

    /** What the examples call, compiled: the answer, and what README.md tells it to be. */
    public static void due(String row, int answer, int told) {
        rows++;
        if (answer != told) {
            wrong++;
            System.out.println(row + " answered " + answer + ", README.md tells " + told);
        }
    }

    private static List<String> examplesOf(String readme) {
        return Pattern.compile("(?s)```java\n(.*?)```").matcher(readme).results()
                .map(found -> found.group(1)).collect(Collectors.toList());
    }

    private static void everyCallIsShown(String readme) {
        String examples = String.join("", examplesOf(readme));
        for (Method method : NobodyBetween.class.getDeclaredMethods()) {
            if (Modifier.isPublic(method.getModifiers()) && !examples.contains("x." + method.getName() + "(")) {
                wrong++;
                System.out.println("README.md doesn't show " + method.getName() + "()");
            }
        }
    }

    private static String sourceOf(String readme) {
        StringBuilder source = new StringBuilder("public final class " + NAME + " {\n");
        source.append("public static void main(String[] args) {\n");
        for (String example : examplesOf(readme)) {
            source.append("{\n");
            for (String line : example.split("\n")) {
                source.append(checked(line)).append('\n');
            }
            source.append("}\n");
        }
        return source.append("}\n}\n").toString();
    }

    /** A line of a call with its answer becomes one that looks at it; others stay. */
    private static String checked(String line) {
        Matcher row = Pattern.compile("(x\\.\\w+\\([^;]*\\)); *// (-?\\d+)(?::.*)?").matcher(line);
        if (row.matches()) {
            return "ReadmeTest.due(\"" + row.group(1) + "\", " + row.group(1) + ", " + row.group(2) + ");";
        }
        if (line.startsWith("x.")) {
            wrong++;
            System.out.println("README.md tells no answer: " + line);
        }
        return line;
    }

    private static void run(Path directory, String source) throws Exception {
        Path file = directory.resolve(NAME + ".java");
        Files.writeString(file, source);
        int compiled = ToolProvider.getSystemJavaCompiler().run(null, null, null, "-Xlint:all",
                "-cp", System.getProperty("java.class.path"), "-d", directory.toString(), file.toString());
        if (compiled != 0) {
            wrong++;
            return;
        }
        try (URLClassLoader loader = new URLClassLoader(new URL[] {directory.toUri().toURL()})) {
            loader.loadClass(NAME).getMethod("main", String[].class).invoke(null, (Object) new String[0]);
        }
    }

    private static void remove(Path directory) throws IOException {
        try (Stream<Path> all = Files.walk(directory)) {
            for (Path path : all.sorted(Comparator.reverseOrder()).collect(Collectors.toList())) {
                Files.delete(path);
            }
        }
    }
}
