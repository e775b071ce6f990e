import java.io.ByteArrayOutputStream;
import java.io.File;
import java.io.IOException;
import java.io.PrintStream;
import java.lang.reflect.Method;
import java.lang.reflect.Modifier;
import java.net.URL;
import java.net.URLClassLoader;
import java.nio.file.Files;
import java.nio.file.Path;
import javax.tools.JavaCompiler;
import javax.tools.ToolProvider;

/** README.md: its example compiles and prints what it says, and all calls and all tests are named there. */
public final class ReadmeTest {
    private ReadmeTest() {
    }

    public static void main(String[] args) throws Exception {
        String readme = Files.readString(Path.of("README.md"));
        String code = block(readme, "java");
        String printed = block(readme, "text");
        Check.due("there is an example", true, () -> code.contains("class Example") && !printed.isEmpty());
        String got = run(code);
        Check.due("what the example prints", printed, () -> got);
        for (Method method : Parishbook.class.getDeclaredMethods()) {
            if (Modifier.isPublic(method.getModifiers())) {
                Check.due(method.getName() + " is named", true, () -> readme.contains("`" + method.getName() + "`"));
            }
        }
        for (String file : new File("src/test/java").list()) {
            String test = file.replace(".java", "");
            Check.due(file + " is named", true, () -> !file.endsWith(".java") || readme.contains(test));
        }
        Check.due("the command that runs all tests", true,
                () -> readme.contains("    bash .ci/run\n") && new File(".ci/run").canExecute());
        Check.end();
    }

    /** The first block of a language, without the lines that fence it. */
    private static String block(String readme, String language) {
        String fence = "\n```" + language + "\n";
        int from = readme.indexOf(fence);
        int to = from < 0 ? -1 : readme.indexOf("\n```", from + fence.length());
        return to < 0 ? "" : readme.substring(from + fence.length(), to + 1);
    }

    private static String run(String code) throws Exception {
        Path place = Files.createTempDirectory("readme");
        try {
            Path source = place.resolve("Example.java");
            Files.writeString(source, code);
            JavaCompiler compiler = ToolProvider.getSystemJavaCompiler();
            int failed = compiler.run(null, null, null, "-d", place.toString(), "-cp",
                    System.getProperty("java.class.path"), source.toString());
            return failed != 0 ? "it does not compile" : printedBy(place);
        } finally {
            clear(place);
        }
    }

    private static String printedBy(Path place) throws Exception {
        PrintStream own = System.out;
        ByteArrayOutputStream bytes = new ByteArrayOutputStream();
        try (URLClassLoader loader = new URLClassLoader(new URL[] {place.toUri().toURL()});
                PrintStream stream = new PrintStream(bytes)) {
            System.setOut(stream);
            loader.loadClass("Example").getMethod("main", String[].class).invoke(null, (Object) new String[0]);
        } finally {
            System.setOut(own);
        }
        return bytes.toString().replace(System.lineSeparator(), "\n");
    }

    private static void clear(Path place) throws IOException {
        for (File file : place.toFile().listFiles()) {
            Files.delete(file.toPath());
        }
        Files.delete(place);
    }
}
