import java.io.IOException;
import java.lang.reflect.Method;
import java.net.URL;
import java.net.URLClassLoader;
import java.nio.file.Files;
import java.nio.file.Path;
import java.util.regex.Matcher;
import java.util.regex.Pattern;
import java.util.stream.Stream;
import javax.tools.ToolProvider;

/** The example in README.md: every answer told behind a call there is asked for. */
final class ReadmeTest {
    private static final Pattern BLOCK = Pattern.compile("(?s)```java\n(.*?)```");
    private static final Pattern LINE = Pattern.compile("(int (\\w+) = )?(.*?);\\s*// (throws (\\w+)|[-+ 0-9]+): .*");
    private static final String FIRST = "RateWires plan = new RateWires();";

    private ReadmeTest() {
    }

    public static void main(String[] args) throws Exception {
        Matcher block = BLOCK.matcher(Files.readString(Path.of("README.md")));
        Checks.isTrue("there is an example", block.find());
        Path folder = Files.createTempDirectory("readme");
        try {
            runs(folder, program(block.group(1)));
        } finally {
            remove(folder);
        }
        Checks.end("ReadmeTest");
    }

    /** The example as a program: each call with the answer that is told behind it. */
    private static String program(String example) {
        StringBuilder s = new StringBuilder("final class Example { static void ask() {\n");
        for (String line : example.split("\n")) {
            Matcher m = LINE.matcher(line);
            if (m.matches()) {
                s.append(asked(m)).append('\n');
            } else {
                Checks.isTrue("an answer stands behind: " + line, line.isEmpty() || line.equals(FIRST));
                s.append(line).append('\n');
            }
        }
        return s.append("} }\n").toString();
    }

    private static String asked(Matcher line) {
        String call = line.group(3);
        if (line.group(5) != null) {
            return "Checks.refused(\"" + quoted(call) + "\", " + line.group(5) + ".class, () -> " + call + ");";
        }
        String answer = line.group(1) == null ? call : line.group(2);
        String before = line.group(1) == null ? "" : line.group(1) + call + "; ";
        return before + "Checks.same(\"" + quoted(call) + "\", " + line.group(4) + ", " + answer + ");";
    }

    private static String quoted(String words) {
        return words.replace("\\", "\\\\").replace("\"", "\\\"");
    }

    private static void runs(Path folder, String program) throws Exception {
        Path source = Files.writeString(folder.resolve("Example.java"), program);
        int code = ToolProvider.getSystemJavaCompiler().run(null, null, null,
                "-cp", System.getProperty("java.class.path"), "-d", folder.toString(), source.toString());
        Checks.same("the example is compiled", 0, code);
        if (code == 0) {
            ask(folder);
        }
    }

    private static void ask(Path folder) throws Exception {
        URL[] places = {folder.toUri().toURL()};
        try (URLClassLoader classes = new URLClassLoader(places, ReadmeTest.class.getClassLoader())) {
            Method example = classes.loadClass("Example").getDeclaredMethod("ask");
            example.setAccessible(true);
            example.invoke(null);
        }
    }

    private static void remove(Path folder) throws IOException {
        try (Stream<Path> files = Files.list(folder)) {
            for (Path file : files.toList()) {
                Files.delete(file);
            }
        }
        Files.delete(folder);
    }
}
