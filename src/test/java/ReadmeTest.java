import java.io.ByteArrayOutputStream;
import java.io.PrintStream;
import java.lang.reflect.Field;
import java.lang.reflect.Method;
import java.lang.reflect.Modifier;
import java.net.URL;
import java.net.URLClassLoader;
import java.nio.file.Files;
import java.nio.file.Path;
import javax.tools.ToolProvider;

/** README.md: its example prints what stands there, and it names all of the public face. Run where src/ is. */
public final class ReadmeTest {
    private ReadmeTest() {
    }

    public static void main(String[] args) throws Exception {
        String readme = Files.readString(Path.of("README.md"));
        String printed = run(block(readme, "java"));
        Check.that("the example of README.md prints what stands there, but:\n" + printed,
                printed.equals(block(readme, "text")));
        for (Field field : SatelliteExchange.class.getFields()) {
            String constant = "`" + field.getName() + "` = " + field.get(null);
            Check.that("README.md tells " + constant, readme.contains(constant));
        }
        for (Method method : SatelliteExchange.class.getDeclaredMethods()) {
            if (Modifier.isPublic(method.getModifiers())) {
                Check.that("README.md names " + method.getName(),
                        readme.contains("`" + method.getName() + "`") || readme.contains("`" + method.getName() + "("));
            }
        }
        Check.end();
    }

    /** The text between the fences of the first block of a kind. */
    private static String block(String readme, String kind) {
        String fence = "```" + kind + "\n";
        int begin = readme.indexOf(fence) + fence.length();
        return readme.substring(begin, readme.indexOf("```", begin));
    }

    private static String run(String source) throws Exception {
        Path place = Files.createTempDirectory(Files.createDirectories(Path.of("build")), "readme");
        Path file = Files.writeString(place.resolve("Example.java"), source);
        Check.due("compiling the example of README.md", 0, ToolProvider.getSystemJavaCompiler().run(null, null, null,
                "-cp", System.getProperty("java.class.path"), "-d", place.toString(), file.toString()));
        PrintStream before = System.out;
        ByteArrayOutputStream printed = new ByteArrayOutputStream();
        try (URLClassLoader loader = new URLClassLoader(new URL[] {place.toUri().toURL()})) {
            System.setOut(new PrintStream(printed, true));
            loader.loadClass("Example").getMethod("main", String[].class).invoke(null, (Object) new String[0]);
        } finally {
            System.setOut(before);
        }
        return printed.toString().replace(System.lineSeparator(), "\n");
    }
}
