import java.io.ByteArrayOutputStream;
import java.io.IOException;
import java.io.PrintStream;
import java.net.URL;
import java.net.URLClassLoader;
import java.nio.file.Files;
import java.nio.file.Path;
import javax.tools.ToolProvider;

// The example of README.md compiles and prints what README.md says. It is run in the project's directory.
public final class ReadmeTest {
    private static final Path BUILD = Path.of("build", "readme");

    public static void main(String[] args) throws IOException, ReflectiveOperationException {
        String readme = Files.readString(Path.of("README.md"));
        String due = block(readme, "text");
        compile(block(readme, "java"));
        String got = printedByExample();
        if (due.isEmpty() || !got.equals(due)) {
            System.out.println("the example of README.md printed");
            System.out.println(got);
            System.out.println("due is");
            System.out.println(due);
            System.exit(1);
        }
        System.out.println("the example of README.md prints what is due");
    }

    // The lines of the first block of that language, or none.
    private static String block(String readme, String language) {
        StringBuilder found = new StringBuilder();
        boolean inside = false;
        for (String line : readme.lines().toList()) {
            if (inside && line.equals("```")) {
                break;
            }
            if (inside) {
                found.append(line).append("\n");
            }
            inside = inside || line.equals("```" + language);
        }
        return found.toString();
    }

    private static void compile(String example) throws IOException {
        Files.createDirectories(BUILD);
        Path source = BUILD.resolve("Example.java");
        Files.writeString(source, example);
        int failed = ToolProvider.getSystemJavaCompiler().run(null, null, null, "--release", "17",
            "-d", BUILD.toString(), "src/main/java/TypedTraces.java", source.toString());
        if (failed != 0) {
            System.out.println("the example of README.md does not compile");
            System.exit(1);
        }
    }

    private static String printedByExample() throws IOException, ReflectiveOperationException {
        PrintStream out = System.out;
        ByteArrayOutputStream printed = new ByteArrayOutputStream();
        URL[] classes = {BUILD.toUri().toURL()};
        try (URLClassLoader loader = new URLClassLoader(classes, ClassLoader.getPlatformClassLoader())) {
            System.setOut(new PrintStream(printed, true));
            loader.loadClass("Example").getMethod("main", String[].class).invoke(null, (Object) new String[0]);
        } finally {
            System.setOut(out);
        }
        return printed.toString().replace(System.lineSeparator(), "\n");
    }
}
