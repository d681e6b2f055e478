import java.io.ByteArrayOutputStream;
import java.io.IOException;
import java.io.PrintStream;
import java.lang.reflect.Method;
import java.lang.reflect.Modifier;
import java.net.URL;
import java.net.URLClassLoader;
import java.nio.file.Files;
import java.nio.file.Path;
import javax.tools.JavaCompiler;
import javax.tools.ToolProvider;

/** What README.md says of the use is true: its example compiles and prints what stands there, and no call is left out. */
public final class ReadmeTest {
    public static void main(String[] args) throws IOException, ReflectiveOperationException {
        Due due = new Due();
        String readme = Files.readString(Path.of("README.md"));
        due.same("the example", block(readme, "text"), printedBy(block(readme, "java")));
        for (Method method : ChessRules.class.getDeclaredMethods()) {
            if (Modifier.isPublic(method.getModifiers())) {
                due.same("README tells of " + method, true, readme.contains("| `" + method.getName() + "("));
            }
        }
        due.end();
    }

    private static String block(String readme, String kind) {
        String head = "```" + kind + "\n";
        int start = readme.indexOf(head) + head.length();
        return readme.substring(start, readme.indexOf("```", start));
    }

    private static String printedBy(String example) throws IOException, ReflectiveOperationException {
        Path folder = Files.createTempDirectory("readme");
        Path source = folder.resolve("Example.java");
        Path compiled = folder.resolve("Example.class");
        try {
            Files.writeString(source, example);
            JavaCompiler compiler = ToolProvider.getSystemJavaCompiler();
            String classPath = System.getProperty("java.class.path");
            int code = compiler.run(null, null, null, "-cp", classPath, "-d", folder.toString(), source.toString());
            return code == 0 ? printedByMain(folder) : "the example does not compile";
        } finally {
            Files.deleteIfExists(compiled);
            Files.deleteIfExists(source);
            Files.deleteIfExists(folder);
        }
    }

    private static String printedByMain(Path folder) throws IOException, ReflectiveOperationException {
        PrintStream usual = System.out;
        ByteArrayOutputStream printed = new ByteArrayOutputStream();
        try (URLClassLoader loader = new URLClassLoader(new URL[] {folder.toUri().toURL()})) {
            System.setOut(new PrintStream(printed, true));
            loader.loadClass("Example").getMethod("main", String[].class).invoke(null, (Object) new String[0]);
        } finally {
            System.setOut(usual);
        }
        return printed.toString().replace(System.lineSeparator(), "\n");
    }
}
