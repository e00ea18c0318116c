import java.io.IOException;
import java.lang.reflect.InvocationTargetException;
import java.lang.reflect.Method;
import java.lang.reflect.Modifier;
import java.net.URL;
import java.net.URLClassLoader;
import java.nio.file.Files;
import java.nio.file.Path;
import java.util.regex.Matcher;
import java.util.regex.Pattern;
import javax.tools.ToolProvider;

/** README.md tells how to use the class: its example answers as it says there, and no call is left out. */
public final class ReadmeTest {
    private static final Pattern ASKED = Pattern.compile("(mirror\\.\\w+\\(.*?\\));\\s+// (-?\\d+).*");

    public static void main(String[] args) throws IOException, ReflectiveOperationException {
        String readme = Files.readString(Path.of("README.md"));
        everyCallIsTold(readme);
        exampleAnswersAsItSays(readme);
        Due.end();
    }

    private static void everyCallIsTold(String readme) {
        for (Method method : WallMirror.class.getDeclaredMethods()) {
            if (Modifier.isPublic(method.getModifiers())) {
                Pattern row = Pattern.compile("(?m)^\\|.*`" + method.getName() + "\\([^)]*\\)`.*\\|.*\\|.*\\|$");
                Due.due("README.md tells of " + method.getName(), row.matcher(readme).find() ? 1 : 0, 1);
            }
        }
    }

    private static void exampleAnswersAsItSays(String readme) throws IOException, ReflectiveOperationException {
        int from = readme.indexOf("```java\n") + "```java\n".length();
        StringBuilder program = new StringBuilder("public class Example {\n    public static void run() {\n");
        int asked = 0;
        for (String line : readme.substring(from, readme.indexOf("```", from)).split("\n")) {
            Matcher matcher = ASKED.matcher(line);
            if (matcher.matches()) {
                asked++;
                program.append("compare(\"").append(matcher.group(1)).append("\", ").append(matcher.group(1)).append(", ")
                    .append(matcher.group(2)).append(");\n");
            } else {
                program.append(line).append('\n');
            }
        }
        program.append("    }\n    private static void compare(String call, long got, long want) {\n")
            .append("        if (got != want) { throw new IllegalStateException(call + \" answered \" + got); }\n    }\n}\n");
        Due.due("answers that README.md tells", asked, 8);
        Due.due("the example of README.md", told(program.toString()), "as it says");
    }

    /** What comes of a program that is compiled aside and run. */
    private static String told(String program) throws IOException, ReflectiveOperationException {
        Path folder = Files.createTempDirectory("readme");
        Path source = folder.resolve("Example.java");
        Path compiled = folder.resolve("Example.class");
        try {
            Files.writeString(source, program);
            int wrong = ToolProvider.getSystemJavaCompiler().run(null, null, null, "-cp",
                System.getProperty("java.class.path"), "-d", folder.toString(), source.toString());
            if (wrong != 0) {
                return "does not compile";
            }
            try (URLClassLoader loader = new URLClassLoader(new URL[] {folder.toUri().toURL()})) {
                loader.loadClass("Example").getMethod("run").invoke(null);
            }
            return "as it says";
        } catch (InvocationTargetException e) {
            return String.valueOf(e.getCause().getMessage());
        } finally {
            Files.deleteIfExists(compiled);
            Files.deleteIfExists(source);
            Files.deleteIfExists(folder);
        }
    }
}
