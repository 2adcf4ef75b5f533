import java.io.ByteArrayOutputStream;
import java.io.IOException;
import java.io.PrintStream;
import java.lang.reflect.Method;
import java.lang.reflect.Modifier;
import java.net.URL;
import java.net.URLClassLoader;
import java.nio.file.Files;
import java.nio.file.Path;
import java.util.regex.Matcher;
import java.util.regex.Pattern;
import javax.tools.ToolProvider;

/** README.md tells every call, and each of its examples prints what it says. */
public final class ReadmeTest {
    private static final Pattern EXAMPLE = Pattern.compile("```java\n(.*?)```.*?```text\n(.*?)```", Pattern.DOTALL);

    public static void main(String[] args) throws Exception {
        String readme = Files.readString(Path.of("README.md"));
        for (Method m : DrawLabels.class.getDeclaredMethods()) {
            if (Modifier.isPublic(m.getModifiers())) {
                Due.due("README.md tells " + m.getName(), readme.contains("`" + m.getName() + "(") ? 1 : 0, 1);
            }
        }
        Due.due("README.md tells how to run the tests", readme.contains(".ci/run") ? 1 : 0, 1);
        Matcher example = EXAMPLE.matcher(readme);
        int examples = 0;
        while (example.find()) {
            examples++;
            Due.due("example " + examples + " of README.md", printedBy("Example" + examples, example.group(1)), example.group(2));
        }
        Due.due("examples with what they print", examples, readme.split("```java\n").length - 1);
        Due.end();
    }

    private static String printedBy(String name, String lines) throws Exception {
        Path place = Files.createTempDirectory("readme");
        Path source = place.resolve(name + ".java");
        Files.writeString(source, "public final class " + name + " {\npublic static void main(String[] args) {\n" + lines + "}\n}\n");
        String classes = System.getProperty("java.class.path");
        int failed = ToolProvider.getSystemJavaCompiler().run(null, null, null, "-cp", classes, "-d", place.toString(), source.toString());
        String printed = failed != 0 ? "it does not compile" : run(name, place);
        remove(place);
        return printed;
    }

    private static String run(String name, Path place) throws Exception {
        ByteArrayOutputStream octets = new ByteArrayOutputStream();
        PrintStream screen = System.out;
        try (URLClassLoader loader = new URLClassLoader(new URL[] {place.toUri().toURL()})) {
            System.setOut(new PrintStream(octets, true));
            loader.loadClass(name).getMethod("main", String[].class).invoke(null, (Object) new String[0]);
        } finally {
            System.setOut(screen);
        }
        return octets.toString().replace("\r\n", "\n");
    }

    private static void remove(Path place) throws IOException {
        try (var files = Files.list(place)) {
            for (Path file : files.toList()) {
                Files.delete(file);
            }
        }
        Files.delete(place);
    }
}
