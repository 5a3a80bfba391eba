import java.io.IOException;
import java.lang.reflect.InvocationTargetException;
import java.net.URL;
import java.net.URLClassLoader;
import java.nio.file.Files;
import java.nio.file.Path;
import java.util.LinkedHashMap;
import java.util.List;
import java.util.Map;
import java.util.regex.Matcher;
import java.util.regex.Pattern;
import javax.tools.ToolProvider;

/** The Java of README.md, compiled and run: each value with a comment behind it must be what the comment says. */
public final class ReadmeTests {
    private static final Pattern VALUE = Pattern.compile("(?:int|boolean|String) (\\w+) = .*; +// (.*)");

    // What the helpers are goes into the class, what uses them into its method run.
    private final StringBuilder helpers = new StringBuilder();
    private final StringBuilder uses = new StringBuilder();
    private final Map<String, String> wanted = new LinkedHashMap<>();

    private void read(List<String> lines) {
        boolean code = false;
        StringBuilder into = null;
        for (String line : lines) {
            if (line.startsWith("```")) {
                code = line.equals("```java");
                into = null;
            } else if (code) {
                if (into == null) {
                    into = line.startsWith("static ") ? helpers : uses;
                }
                into.append(line).append('\n');
                note(line);
            }
        }
    }

    private void note(String line) {
        Matcher value = VALUE.matcher(line);
        if (value.matches()) {
            wanted.put(value.group(1), value.group(2));
            uses.append("got.put(\"").append(value.group(1)).append("\", ").append(value.group(1)).append(");\n");
        }
    }

    private String source() {
        return "public final class ReadmeExample {\n" + helpers
            + "public static void run(java.util.Map<String, Object> got) {\n" + uses
            + "got.put(\"thrown\", thrown);\n}\n}\n";
    }

    private static void delete(Path folder) throws IOException {
        for (String name : List.of("ReadmeExample.java", "ReadmeExample.class")) {
            Files.deleteIfExists(folder.resolve(name));
        }
        Files.delete(folder);
    }

    private Map<String, Object> run(Path folder) throws IOException, ReflectiveOperationException {
        Map<String, Object> got = new LinkedHashMap<>();
        Path file = Files.writeString(folder.resolve("ReadmeExample.java"), source());
        int failed = ToolProvider.getSystemJavaCompiler().run(null, null, null, "-cp",
            System.getProperty("java.class.path"), "-d", folder.toString(), file.toString());
        Calls.check("the compiler", failed, 0);
        if (failed == 0) {
            try (URLClassLoader loader = new URLClassLoader(new URL[] {folder.toUri().toURL()})) {
                loader.loadClass("ReadmeExample").getMethod("run", Map.class).invoke(null, got);
            } catch (InvocationTargetException e) {
                Calls.check("README.md's Java throws", e.getCause().toString(), "nothing");
            }
        }
        return got;
    }

    public static void main(String[] arguments) throws IOException, ReflectiveOperationException {
        ReadmeTests tests = new ReadmeTests();
        tests.read(Files.readAllLines(Path.of("README.md")));
        tests.wanted.put("thrown", "no block 9");
        Calls.check("README.md tells some values", tests.wanted.size() > 15, true);
        Path folder = Files.createTempDirectory("readme");
        Map<String, Object> got = tests.run(folder);
        delete(folder);
        for (String name : tests.wanted.keySet()) {
            Calls.check("README.md: " + name, String.valueOf(got.get(name)), tests.wanted.get(name));
        }
        Calls.finish("ReadmeTests");
    }
}
