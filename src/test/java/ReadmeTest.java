import java.io.IOException;
import java.io.StringWriter;
import java.lang.reflect.Method;
import java.lang.reflect.Modifier;
import java.net.URL;
import java.net.URLClassLoader;
import java.nio.file.Files;
import java.nio.file.Path;
import java.util.List;
import java.util.regex.Matcher;
import java.util.regex.Pattern;
import java.util.stream.Stream;
import javax.tools.JavaCompiler;
import javax.tools.ToolProvider;

/**
 * The example of README.md: its blocks of Java, joined, are compiled and run as they stand, but that
 * each call with an answer behind it is handed on to {@link #due}.
 */
public final class ReadmeTest {
    private static final Path FILE = Path.of("README.md");
    private static final Pattern BLOCK = Pattern.compile("(?ms)^```java\n(.*?)^```$");
    private static final Pattern CALL = Pattern.compile("(x\\.(\\w+)\\(.*\\)); *// (-?[0-9]+|[A-Z]+)(:.*)?");
    private static final Checks CHECKS = new Checks();

    public static void main(String[] args) throws Exception {
        String readme = Files.readString(FILE);
        CHECKS.part(FILE.toString());
        String example = example(readme);
        everyCallIsShown(example);
        everyTestIsNamed(readme);
        everyNamedFileExists(readme);
        run(example);
        CHECKS.end();
    }

    /** The compiled example calls this. */
    public static void due(String call, long got, long want) {
        CHECKS.due(call, got, want);
    }

    private static String example(String readme) {
        StringBuilder all = new StringBuilder();
        Matcher blocks = BLOCK.matcher(readme);
        while (blocks.find()) {
            all.append(blocks.group(1));
        }
        CHECKS.holds("there is an example", all.length() > 0);
        return all.toString();
    }

    private static void everyCallIsShown(String example) {
        for (Method m : VouchFlow.class.getDeclaredMethods()) {
            if (Modifier.isPublic(m.getModifiers())) {
                String call = "(?m)^x\\." + m.getName() + "\\(.*// ";
                CHECKS.holds("the example shows " + m.getName() + "() with an answer", Pattern.compile(call).matcher(example).find());
            }
        }
        for (String constant : List.of("NONE", "UNKNOWN", "OUTSIDE", "STATE")) {
            CHECKS.holds("the example shows " + constant, example.contains("// " + constant + ":"));
        }
    }

    private static void everyTestIsNamed(String readme) throws IOException {
        try (Stream<Path> files = Files.list(Path.of("src/test/java"))) {
            for (Path file : files.sorted().toList()) {
                String name = file.getFileName().toString().replace(".java", "");
                CHECKS.holds("it names " + name, !name.endsWith("Test") || readme.contains(name));
            }
        }
        CHECKS.holds("it says how to run the tests", readme.contains("\n    .ci/run\n") && Files.isExecutable(Path.of(".ci/run")));
    }

    private static void everyNamedFileExists(String readme) {
        Matcher names = Pattern.compile("`([./\\w]+\\.(?:java|md)|\\w+Test|\\.ci/run|\\.\\./\\w+(?:/\\w+)?)`").matcher(readme);
        while (names.find()) {
            String name = names.group(1).endsWith("Test") ? "src/test/java/" + names.group(1) + ".java" : names.group(1);
            CHECKS.holds("there is " + name, Files.exists(Path.of(name)));
        }
    }

    private static void run(String example) throws Exception {
        Path room = Files.createTempDirectory("readme");
        try {
            Path source = room.resolve("ReadmeExample.java");
            Files.writeString(source, program(example));
            JavaCompiler javac = ToolProvider.getSystemJavaCompiler();
            int code = javac.run(null, null, null, "-cp", System.getProperty("java.class.path"), "-d", room.toString(), source.toString());
            CHECKS.due("javac of the example", code, 0);
            if (code == 0) {
                try (URLClassLoader loader = new URLClassLoader(new URL[] {room.toUri().toURL()})) {
                    loader.loadClass("ReadmeExample").getMethod("show").invoke(null);
                }
            }
        } finally {
            remove(room);
        }
    }

    private static String program(String example) {
        StringWriter program = new StringWriter();
        program.write("public final class ReadmeExample {\n    public static void show() {\n");
        for (String line : example.split("\n")) {
            program.write(statement(line) + "\n");
        }
        program.write("    }\n}\n");
        return program.toString();
    }

    private static String statement(String line) {
        Matcher call = CALL.matcher(line);
        if (call.matches()) {
            String want = call.group(3);
            String value = Character.isLetter(want.charAt(0)) ? "VouchFlow." + want : want + "L";
            return "ReadmeTest.due(\"" + call.group(1) + "\", " + call.group(1) + ", " + value + ");";
        }
        // inside a loop a call may stand without an answer, at the margin it may not
        CHECKS.holds("an answer stands behind: " + line, !line.startsWith("x."));
        return line;
    }

    private static void remove(Path room) throws IOException {
        try (Stream<Path> files = Files.list(room)) {
            for (Path file : files.toList()) {
                Files.delete(file);
            }
        }
        Files.delete(room);
    }
}
