import java.io.ByteArrayOutputStream;
import java.io.IOException;
import java.io.PrintStream;
import java.net.URL;
import java.net.URLClassLoader;
import java.nio.charset.StandardCharsets;
import java.nio.file.Files;
import java.nio.file.Path;
import java.util.regex.Matcher;
import java.util.regex.Pattern;
import javax.tools.ToolProvider;

/** The program that README.md shows compiles with the class, and prints what README.md says. */
public final class ReadmeTest {
    private static final Check CHECK = new Check();

    public static void main(String[] args) throws IOException, ReflectiveOperationException {
        String readme = Files.readString(Path.of("README.md"), StandardCharsets.UTF_8);
        String program = block(readme, "java");
        String due = block(readme, "text");
        Path folder = Files.createTempDirectory("readme");
        Path source = folder.resolve("Meeting.java");
        Path compiled = folder.resolve("Meeting.class");
        Files.writeString(source, program);
        int failed = ToolProvider.getSystemJavaCompiler().run(null, null, null, "-d", folder.toString(),
            "-classpath", System.getProperty("java.class.path"), source.toString());
        CHECK.due("compiling the program", 0, failed);
        if (failed == 0) {
            String printed = printed(folder);
            CHECK.that("it printed\n" + printed + "due is\n" + due, due.equals(printed));
        }
        Files.deleteIfExists(compiled);
        Files.delete(source);
        Files.delete(folder);
        CHECK.end();
    }

    private static String block(String readme, String kind) {
        Matcher matcher = Pattern.compile("```" + kind + "\n(.*?)```", Pattern.DOTALL).matcher(readme);
        CHECK.that("there is a block of " + kind, matcher.find());
        return matcher.group(1);
    }

    private static String printed(Path folder) throws IOException, ReflectiveOperationException {
        PrintStream before = System.out;
        ByteArrayOutputStream bytes = new ByteArrayOutputStream();
        try (URLClassLoader loader = new URLClassLoader(new URL[] {folder.toUri().toURL()});
            PrintStream stream = new PrintStream(bytes, true, StandardCharsets.UTF_8)) {
            System.setOut(stream);
            loader.loadClass("Meeting").getMethod("main", String[].class).invoke(null, (Object) new String[0]);
        } finally {
            System.setOut(before);
        }
        return bytes.toString(StandardCharsets.UTF_8).replace(System.lineSeparator(), "\n");
    }
}
