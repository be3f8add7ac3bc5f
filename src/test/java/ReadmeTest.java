import java.io.IOException;
import java.lang.reflect.Method;
import java.lang.reflect.Modifier;
import java.net.URL;
import java.net.URLClassLoader;
import java.nio.charset.StandardCharsets;
import java.nio.file.Files;
import java.nio.file.Path;
import java.util.List;
import java.util.function.BiConsumer;
import java.util.regex.Matcher;
import java.util.regex.Pattern;
import java.util.stream.Collectors;
import java.util.stream.Stream;
import javax.tools.ToolProvider;

/**
 * README.md: its code compiles and answers what stands behind each call, and it names every call and every test.
 * The property 'root' tells where the checkout is.
 */
public final class ReadmeTest {
    private static final Pattern BLOCK = Pattern.compile("```java\n(.*?)```", Pattern.DOTALL);
    private static final Pattern ANSWERED = Pattern.compile("\\s*(fen\\.\\w+\\([^)]*\\)); *// (-?\\d+|true|false|throws)\\b.*");
    private static final Pattern CALL = Pattern.compile("\\s*fen\\.\\w+\\(.*");

    /** A block's line as it is compiled: a call with an answer behind it hands both to 'due'. */
    private static String compiled(String line) {
        Matcher answered = ANSWERED.matcher(line);
        if (!answered.matches()) {
            Due.is("README.md tells an answer of '" + line + "'", CALL.matcher(line).matches(), false);
            return line;
        }
        String call = answered.group(1);
        String told = "due.accept(\"" + call + "\", new Object[] {";
        if (!answered.group(2).equals("throws")) {
            return told + call + ", " + answered.group(2) + "});";
        }
        return "try { " + told + call + ", \"throws\"}); } catch (java.util.NoSuchElementException e) { "
            + told + "\"throws\", \"throws\"}); }";
    }

    private static String source(String readme) {
        StringBuilder helpers = new StringBuilder();
        StringBuilder runs = new StringBuilder();
        Matcher block = BLOCK.matcher(readme);
        while (block.find()) {
            String code = block.group(1);
            if (code.startsWith("static ")) {
                helpers.append(code);
            } else {
                String lines = code.lines().map(ReadmeTest::compiled).collect(Collectors.joining("\n"));
                runs.append("{\n").append(lines).append("\n}\n");
            }
        }
        return "public class ReadmeCode {\n" + helpers
            + "public static void run(java.util.function.BiConsumer<String, Object[]> due) {\n" + runs + "}\n}\n";
    }

    private static void runs(String readme) throws IOException, ReflectiveOperationException {
        Path out = Files.createTempDirectory("readme");
        Path file = out.resolve("ReadmeCode.java");
        Files.writeString(file, source(readme), StandardCharsets.UTF_8);
        int compiled = ToolProvider.getSystemJavaCompiler().run(null, System.out, System.out, "-cp",
            System.getProperty("java.class.path"), "-d", out.toString(), file.toString());
        Due.is("README.md's code compiles", compiled, 0);
        int asked = Due.asked();
        BiConsumer<String, Object[]> due = (call, both) -> {
            boolean same = String.valueOf(both[0]).equals(String.valueOf(both[1]));
            Due.is("README.md: " + call + " is " + both[0] + ", not " + both[1], same, true);
        };
        try (URLClassLoader loader = new URLClassLoader(new URL[] {out.toUri().toURL()})) {
            loader.loadClass("ReadmeCode").getMethod("run", BiConsumer.class).invoke(null, due);
        }
        Due.is("README.md's code asks for something", Due.asked() > asked, true);
        deletes(out);
    }

    private static void deletes(Path out) throws IOException {
        try (Stream<Path> files = Files.list(out)) {
            for (Path file : files.collect(Collectors.toList())) {
                Files.delete(file);
            }
        }
        Files.delete(out);
    }

    private static void names(String readme, Path root) throws IOException {
        for (Method m : NamesInMouths.class.getDeclaredMethods()) {
            if (Modifier.isPublic(m.getModifiers())) {
                Due.is("README.md names " + m.getName(), readme.contains("`" + m.getName() + "`"), true);
            }
        }
        List<Path> files;
        try (Stream<Path> tests = Files.list(root.resolve("src/test/java"))) {
            files = tests.collect(Collectors.toList());
        }
        for (Path file : files) {
            String name = file.getFileName().toString().replace(".java", "");
            Due.is("README.md names " + name, !name.endsWith("Test") || readme.contains("`" + name + "`"), true);
        }
    }

    public static void main(String[] args) throws IOException, ReflectiveOperationException {
        Path root = Path.of(System.getProperty("root"));
        String readme = Files.readString(root.resolve("README.md"), StandardCharsets.UTF_8);
        runs(readme);
        names(readme, root);
        Due.ends();
    }
}
