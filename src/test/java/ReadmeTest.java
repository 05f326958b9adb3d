import java.io.IOException;
import java.lang.reflect.InvocationTargetException;
import java.net.URL;
import java.net.URLClassLoader;
import java.nio.file.Files;
import java.nio.file.Path;
import java.util.regex.Matcher;
import java.util.regex.Pattern;
import javax.tools.ToolProvider;

/** Each call in the example of README.md answers what stands behind it; started in the project's folder. */
public final class ReadmeTest {
    private static final Path FOLDER = Path.of("build", "readme");
    private static final Pattern EXAMPLE = Pattern.compile("```java\n(.*?)```", Pattern.DOTALL);
    private static final Pattern CALL = Pattern.compile("(?:int (\\w+) = )?(yard\\.\\w+\\(.*\\)); +// (-?\\d+)\\b.*");

    private static final Check c = new Check();
    private static int calls = 0;

    public static void main(String[] args) throws IOException, ReflectiveOperationException {
        Matcher example = EXAMPLE.matcher(Files.readString(Path.of("README.md")));
        StringBuilder body = new StringBuilder();
        while (example.find()) {
            for (String line : example.group(1).split("\n")) {
                body.append(asked(line)).append('\n');
            }
        }
        c.holds("the example has calls: " + calls, calls > 20);
        run("public final class Example { public static void main(String[] args) {\n" + body + "}\n"
            + "static int due(String call, int got, int want) {\n"
            + "  if (got != want) throw new IllegalStateException(call + \" answered \" + got + \", due is \" + want);\n"
            + "  return got;\n} }\n");
        c.end("ReadmeTest");
    }

    /** A line of the example, in which the answer of a call is compared with the one that stands behind it. */
    private static String asked(String line) {
        Matcher call = CALL.matcher(line);
        if (!call.matches()) {
            c.holds("a call without an answer: " + line, !line.contains("yard."));
            return line;
        }
        calls++;
        String due = "due(\"" + call.group(2).replace("\"", "'") + "\", " + call.group(2) + ", " + call.group(3) + ");";
        return call.group(1) == null ? due : "int " + call.group(1) + " = " + due;
    }

    private static void run(String source) throws IOException, ReflectiveOperationException {
        Files.createDirectories(FOLDER);
        Path file = FOLDER.resolve("Example.java");
        Files.writeString(file, source);
        int compiled = ToolProvider.getSystemJavaCompiler().run(null, null, null, "-proc:none", "-cp",
            System.getProperty("java.class.path"), "-d", FOLDER.toString(), file.toString());
        c.due("javac of the example", compiled, 0);
        if (compiled == 0) {
            started();
        }
    }

    private static void started() throws IOException, ReflectiveOperationException {
        URL[] path = {FOLDER.toUri().toURL()};
        try (URLClassLoader loader = new URLClassLoader(path)) {
            loader.loadClass("Example").getMethod("main", String[].class).invoke(null, (Object) new String[0]);
        } catch (InvocationTargetException e) {
            c.holds(e.getCause().toString(), false);
        }
    }
}
