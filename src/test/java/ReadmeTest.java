import java.io.IOException;
import java.lang.reflect.Method;
import java.net.URL;
import java.net.URLClassLoader;
import java.nio.file.Files;
import java.nio.file.Path;
import java.util.Comparator;
import java.util.regex.Matcher;
import java.util.regex.Pattern;
import java.util.stream.Stream;
import javax.tools.ToolProvider;

/** Runs the blocks of Java in README.md: each call must answer what stands behind it. */
public final class ReadmeTest {
    private static final Pattern BLOCK = Pattern.compile("(?s)```java\n(.*?)```");
    private static final Pattern ANSWERED = Pattern.compile("(int \\w+ = )?(x\\.\\w+\\(.*\\)); +// (-?\\d+)(:.*)?");
    private static final Pattern CALL = Pattern.compile("\\bx\\.\\w+\\(");
    private static final Due due = new Due("ReadmeTest");

    private final StringBuilder code = new StringBuilder();
    private int answered;

    public static void main(String[] args) throws IOException, ReflectiveOperationException {
        ReadmeTest test = new ReadmeTest();
        Matcher blocks = BLOCK.matcher(Files.readString(Path.of("README.md")));
        while (blocks.find()) {
            blocks.group(1).lines().forEach(test::line);
        }
        due.is("README.md shows a good many calls", 1, test.answered >= 30 ? 1 : 0);
        test.run();
        due.close();
    }

    /** Called by the code that is made of the blocks. */
    public static void is(String call, int want, int got) {
        due.is(call, want, got);
    }

    private void line(String text) {
        Matcher m = ANSWERED.matcher(text);
        if (!m.matches()) {
            boolean silent = CALL.matcher(text).find() && !text.contains("x.feed(");
            due.is("an answer stands behind " + text.strip(), 0, silent ? 1 : 0);
            code.append(text).append('\n');
            return;
        }
        answered++;
        String name = "answer" + answered;
        code.append("int ").append(name).append(" = ").append(m.group(2)).append(";\n");
        if (m.group(1) != null) {
            code.append(m.group(1)).append(name).append(";\n");
        }
        String call = m.group(2).replace("\"", "\\\"");
        code.append("ReadmeTest.is(\"").append(call).append("\", ").append(m.group(3));
        code.append(", ").append(name).append(");\n");
    }

    private void run() throws IOException, ReflectiveOperationException {
        Path dir = Files.createTempDirectory("readme");
        try {
            Path source = dir.resolve("Readme.java");
            Files.writeString(source, "public class Readme { public static void run() {\n" + code + "} }\n");
            String path = System.getProperty("java.class.path");
            int refused = ToolProvider.getSystemJavaCompiler()
                .run(null, null, null, "-cp", path, "-d", dir.toString(), source.toString());
            due.is("the blocks of README.md compile", 0, refused);
            if (refused == 0) {
                call(dir);
            }
        } finally {
            remove(dir);
        }
    }

    private static void call(Path dir) throws IOException, ReflectiveOperationException {
        try (URLClassLoader loader = new URLClassLoader(new URL[] {dir.toUri().toURL()})) {
            Method run = loader.loadClass("Readme").getMethod("run");
            run.invoke(null);
        }
    }

    private static void remove(Path dir) throws IOException {
        try (Stream<Path> files = Files.walk(dir)) {
            for (Path file : files.sorted(Comparator.reverseOrder()).toList()) {
                Files.delete(file);
            }
        }
    }
}
