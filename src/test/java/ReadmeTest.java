import java.io.IOException;
import java.net.URL;
import java.net.URLClassLoader;
import java.nio.file.Files;
import java.nio.file.Path;
import java.util.List;
import java.util.regex.Matcher;
import java.util.regex.Pattern;
import javax.tools.ToolProvider;

/** The README's examples compile, and each call answers what is written beside it; it runs in the project's folder. */
public final class ReadmeTest {
    private static final Check CHECK = new Check();
    private static final Pattern EXAMPLE = Pattern.compile("(?ms)^```java\n(.*?)^```$");
    private static final Pattern ANSWERED =
            Pattern.compile("(?m)^(\\s*)(x\\.\\w+\\([^;]*\\)); +// (-?\\d+|true|false|[A-Z]+_[A-Z]+)(:.*)?$");

    public static void main(String[] args) throws Exception {
        String readme = Files.readString(Path.of("README.md"));
        Matcher example = EXAMPLE.matcher(readme);
        int number = 0;
        while (example.find()) {
            number++;
            run("Example" + number, example.group(1));
        }
        CHECK.due("the README has examples", number > 0, true);
        tellsHowToRunTheTests(readme);
        CHECK.end();
    }

    /** Called by the examples as they are compiled here. */
    public static void due(String call, long got, long want) {
        CHECK.due("README.md: " + call, got, want);
    }

    public static void due(String call, boolean got, boolean want) {
        CHECK.due("README.md: " + call, got, want);
    }

    private static void run(String name, String code) throws Exception {
        CHECK.due(name + " tells answers", ANSWERED.matcher(code).find(), true);
        Path folder = Files.createTempDirectory("readme");
        Path source = folder.resolve(name + ".java");
        Path compiled = folder.resolve(name + ".class");
        try {
            Files.writeString(source, "public final class " + name + " { public static void main(String[] args) {\n"
                    + asChecks(code) + "} }\n");
            int exit = ToolProvider.getSystemJavaCompiler().run(null, null, null,
                    "-cp", System.getProperty("java.class.path"), "-d", folder.toString(), source.toString());
            if (CHECK.due(name + " compiles", exit, 0)) {
                callMain(folder, name);
            }
        } finally {
            for (Path made : List.of(source, compiled, folder)) {
                Files.deleteIfExists(made);
            }
        }
    }

    private static String asChecks(String code) {
        return ANSWERED.matcher(code).replaceAll(found -> {
            String answer = found.group(3).contains("_") ? "LockElision." + found.group(3) : found.group(3);
            return found.group(1) + "ReadmeTest.due(\"" + found.group(2) + "\", " + found.group(2) + ", " + answer + ");";
        });
    }

    private static void callMain(Path folder, String name) throws IOException, ReflectiveOperationException {
        try (URLClassLoader loader = new URLClassLoader(new URL[] {folder.toUri().toURL()})) {
            loader.loadClass(name).getMethod("main", String[].class).invoke(null, (Object) new String[0]);
        }
    }

    /** A test that the README does not name can't be found by its reader. */
    private static void tellsHowToRunTheTests(String readme) throws IOException {
        CHECK.due("the README names .ci/run", readme.contains("\n    .ci/run\n"), true);
        try (var files = Files.list(Path.of("src/test/java"))) {
            for (Path file : files.sorted().toList()) {
                String test = file.getFileName().toString().replace(".java", "");
                CHECK.due("the README names " + test, readme.contains("`" + test + "`"), true);
            }
        }
    }
}
