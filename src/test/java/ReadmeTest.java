import java.io.IOException;
import java.lang.reflect.Method;
import java.lang.reflect.Modifier;
import java.net.URL;
import java.net.URLClassLoader;
import java.nio.file.Files;
import java.nio.file.Path;
import java.util.ArrayList;
import java.util.List;
import java.util.regex.Matcher;
import java.util.regex.Pattern;
import java.util.stream.Stream;
import javax.tools.JavaCompiler;
import javax.tools.ToolProvider;

/** The example in README.md: it compiles, each of its rows answers as it says, and it makes every call of the face. */
public final class ReadmeTest {
    private static final Pattern ROW = Pattern.compile("\\s*(map\\.(\\w+)\\(.*\\)); +// (-?\\d+|[A-Z]+)\\b.*");
    private static final Pattern BLOCK = Pattern.compile("(?ms)^```java\n(.*?)^```$");

    private static final Due due = new Due();
    /** The rows that make a call, in the order in which they stand. */
    private static final List<String> rows = new ArrayList<>();

    public static void main(String[] args) throws Exception {
        String example = example(Files.readString(Path.of("README.md")));
        due.is("README.md has an example", example.isEmpty() ? 0 : 1, 1);
        everyCallIsShown(example);
        Path dir = Files.createTempDirectory("readme");
        try {
            run(dir, program(example));
        } finally {
            clear(dir);
        }
        due.end();
    }

    private static String example(String readme) {
        StringBuilder all = new StringBuilder();
        Matcher block = BLOCK.matcher(readme);
        while (block.find()) {
            all.append(block.group(1));
        }
        return all.toString();
    }

    private static void everyCallIsShown(String example) {
        for (Method m : DriedMap.class.getDeclaredMethods()) {
            if (Modifier.isPublic(m.getModifiers())) {
                due.is("the example makes the call " + m.getName(), example.contains("map." + m.getName() + "(") ? 1 : 0, 1);
            }
        }
    }

    /** The example as a class that notes, call by call, the row's number, what was answered and what the row says. */
    private static String program(String example) {
        StringBuilder source = new StringBuilder("public final class Example {\n");
        source.append("  public static void rows(java.util.List<long[]> noted) {\n");
        for (String line : example.split("\n")) {
            Matcher row = ROW.matcher(line);
            if (row.matches()) {
                String says = row.group(3).matches("[A-Z]+") ? "DriedMap." + row.group(3) : row.group(3) + "L";
                source.append("noted.add(new long[] {").append(rows.size()).append(", ").append(row.group(1));
                source.append(", ").append(says).append("});\n");
                rows.add(line.trim());
            } else {
                due.is("a row says what it answers: " + line, line.contains("map.") ? 0 : 1, 1);
                source.append(line).append('\n');
            }
        }
        return source.append("  }\n}\n").toString();
    }

    private static void run(Path dir, String program) throws Exception {
        Path file = dir.resolve("Example.java");
        Files.writeString(file, program);
        JavaCompiler javac = ToolProvider.getSystemJavaCompiler();
        due.is("there is a compiler", javac == null ? 0 : 1, 1);
        if (javac == null) {
            return;
        }
        String path = System.getProperty("java.class.path");
        int failed = javac.run(null, null, null, "-cp", path, "-d", dir.toString(), file.toString());
        due.is("the example compiles", failed, 0);
        if (failed != 0) {
            return;
        }
        List<long[]> noted = new ArrayList<>();
        try (URLClassLoader loader = new URLClassLoader(new URL[] {dir.toUri().toURL()}, ReadmeTest.class.getClassLoader())) {
            loader.loadClass("Example").getMethod("rows", List.class).invoke(null, noted);
        }
        boolean[] met = new boolean[rows.size()];
        for (long[] of : noted) {
            met[(int) of[0]] = true;
            due.is("the row '" + rows.get((int) of[0]) + "'", of[1], of[2]);
        }
        for (int k = 0; k < met.length; k++) {
            due.is("the row '" + rows.get(k) + "' is come to", met[k] ? 1 : 0, 1);
        }
    }

    private static void clear(Path dir) throws IOException {
        try (Stream<Path> files = Files.list(dir)) {
            for (Path file : files.toList()) {
                Files.delete(file);
            }
        }
        Files.delete(dir);
    }
}
