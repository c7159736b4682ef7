import java.io.IOException;
import java.net.URL;
import java.net.URLClassLoader;
import java.nio.file.Files;
import java.nio.file.Path;
import java.util.ArrayList;
import java.util.List;
import java.util.regex.Matcher;
import java.util.regex.Pattern;
import javax.tools.ToolProvider;

/** The example of README.md runs, and each call in it answers what the remark behind it says. */
public final class ReadmeTest {
    private static final Pattern EXAMPLE = Pattern.compile("(?s)```java\n(.*?)```");
    private static final Pattern ANSWERED = Pattern.compile("(?m)^\\s*(house\\.\\w+\\(.*\\)); *// (\\w+)(:.*)?$");

    public static void main(String[] args) throws IOException, ReflectiveOperationException {
        Matcher example = EXAMPLE.matcher(Files.readString(Path.of(System.getProperty("twinlinks.readme"))));
        if (!example.find()) {
            throw new AssertionError("README.md has no example");
        }
        Due due = new Due("ReadmeTest");
        Path room = Files.createTempDirectory("readme");
        Path source = room.resolve("Example.java");
        try {
            Files.writeString(source, "public final class Example {\n"
                + "    public static void run(java.util.List<Object[]> answers) {\n"
                + noted(example.group(1)) + "    }\n}\n");
            run(room, source, due);
        } finally {
            Files.deleteIfExists(room.resolve("Example.class"));
            Files.deleteIfExists(source);
            Files.deleteIfExists(room);
        }
        due.close();
    }

    private static String noted(String example) {
        return ANSWERED.matcher(example).replaceAll("answers.add(new Object[] {\"$1\", $2, $1});");
    }

    private static void run(Path room, Path source, Due due) throws IOException, ReflectiveOperationException {
        int failed = ToolProvider.getSystemJavaCompiler().run(null, null, null, "-proc:none", "-d", room.toString(),
            "-classpath", System.getProperty("java.class.path"), source.toString());
        due.same("the compiler's exit code", 0, failed);
        if (failed != 0) {
            return;
        }
        URL[] places = {room.toUri().toURL()};
        try (URLClassLoader loader = new URLClassLoader(places)) {
            List<Object[]> answers = new ArrayList<>();
            loader.loadClass("Example").getMethod("run", List.class).invoke(null, answers);
            due.same("there are remarks to compare with", true, answers.size() > 5);
            for (Object[] each : answers) {
                due.same(each[0].toString(), each[1], each[2]);
            }
        }
    }
}
