import java.io.IOException;
import java.lang.reflect.Method;
import java.lang.reflect.Modifier;
import java.net.URL;
import java.net.URLClassLoader;
import java.nio.file.Files;
import java.nio.file.Path;
import java.util.regex.Matcher;
import java.util.regex.Pattern;

/** The example of README.md compiles and answers what is written behind its calls; every call is named. */
public final class ReadmeTest {
    private static final Pattern CALL =
        Pattern.compile("(int \\w+ = )?(bench\\.\\w+\\(.*\\)); +// (-?\\d+|true|false)\\b.*");
    private static final Path OUT = Path.of("build", "readme");
    private static final Check check = new Check("readme");
    private static int written = 0;

    public static void main(String[] args) throws Exception {
        String readme = Files.readString(Path.of("README.md"));
        String[] parts = readme.split("```");
        check.is("README.md has one example", parts.length, 3);
        check.is("the example is Java", parts[1].startsWith("java\n"), true);
        run(parts[1].substring("java\n".length()));
        names(readme);
        tests(readme);
        check.end();
    }

    /** Called by the compiled example. */
    public static long due(String line, long got, long want) {
        check.is(line, got, want);
        written--;
        return got;
    }

    public static boolean due(String line, boolean got, boolean want) {
        due(line, got ? 1L : 0L, want ? 1L : 0L);
        return got;
    }

    private static void run(String example) throws Exception {
        Files.createDirectories(OUT);
        Path source = OUT.resolve("ReadmeExample.java");
        Files.writeString(source, asClass(example));
        // the same javac that .ci/run calls
        int code = new ProcessBuilder("javac", "--release", "17", "-cp", System.getProperty("java.class.path"),
            "-d", OUT.toString(), source.toString()).inheritIO().start().waitFor();
        check.is("the example compiles", code, 0);
        if (code == 0) {
            try (URLClassLoader loader = new URLClassLoader(new URL[] {OUT.toUri().toURL()})) {
                loader.loadClass("ReadmeExample").getMethod("run").invoke(null);
            }
            check.is("answers that the example did not give", written, 0);
        }
    }

    private static String asClass(String example) {
        StringBuilder code = new StringBuilder("public final class ReadmeExample {\npublic static void run() {\n");
        for (String line : example.split("\n")) {
            Matcher call = CALL.matcher(line);
            if (call.matches()) {
                written++;
                String shown = line.replaceAll(" +//.*", "").replace("\"", "'");
                String asked = "ReadmeTest.due(\"" + shown + "\", " + call.group(2) + ", " + call.group(3) + ")";
                code.append(call.group(1) == null ? asked : call.group(1) + "(int) " + asked).append(";\n");
            } else {
                code.append(line).append('\n');
            }
        }
        check.is("the example tells answers", written > 0, true);
        return code.append("}\n}\n").toString();
    }

    private static void names(String readme) {
        for (Method m : HotGames.class.getDeclaredMethods()) {
            if (Modifier.isPublic(m.getModifiers())) {
                check.is("README.md names " + m.getName(), readme.contains("`" + m.getName() + "`"), true);
            }
        }
    }

    private static void tests(String readme) throws IOException {
        check.is("README.md says how the tests are run", readme.contains(".ci/run"), true);
        try (var files = Files.list(Path.of("src", "test", "java"))) {
            for (Path file : (Iterable<Path>) files::iterator) {
                String name = file.getFileName().toString().replace(".java", "");
                if (name.endsWith("Test")) {
                    check.is("README.md names " + name, readme.contains("`" + name + "`"), true);
                }
            }
        }
    }
}
