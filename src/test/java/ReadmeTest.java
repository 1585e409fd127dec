import java.io.ByteArrayOutputStream;
import java.io.PrintStream;
import java.lang.reflect.Method;
import java.lang.reflect.Modifier;
import java.net.URL;
import java.net.URLClassLoader;
import java.nio.file.Files;
import java.nio.file.Path;
import java.util.ArrayList;
import java.util.List;
import java.util.regex.Matcher;
import java.util.regex.Pattern;
import javax.tools.ToolProvider;

/** README.md: its example compiles and prints what its comments say, and it names every call. */
public final class ReadmeTest {
    private static final Check CHECK = new Check("ReadmeTest");
    private static final Pattern EXAMPLE = Pattern.compile("(?s)\n```java\n(.*?)\n```\n");
    private static final Pattern ANSWER = Pattern.compile("println\\(.*\\); *// ([^:\n]+): ");

    public static void main(String[] args) throws Exception {
        String readme = Files.readString(Path.of("README.md"));
        List<String> programs = found(EXAMPLE, readme);
        CHECK.due("programs in README.md", programs.size(), 1);
        for (String program : programs) {
            example(program);
        }
        namesEveryCall(readme);
        CHECK.end();
    }

    private static List<String> found(Pattern pattern, String text) {
        List<String> list = new ArrayList<>();
        Matcher matcher = pattern.matcher(text);
        while (matcher.find()) {
            list.add(matcher.group(1));
        }
        return list;
    }

    private static void example(String program) throws Exception {
        CHECK.sentence("the example");
        List<String> due = found(ANSWER, program);
        CHECK.due("answers told for each println", due.size(), program.split("println").length - 1);
        Path place = Files.createTempDirectory("readme");
        Path source = place.resolve("Example.java");
        Path made = place.resolve("Example.class");
        try {
            Files.writeString(source, program);
            int code = ToolProvider.getSystemJavaCompiler().run(null, null, null, "--release", "17",
                    "-cp", System.getProperty("java.class.path"), "-d", place.toString(),
                    source.toString());
            CHECK.due("javac", code, 0);
            if (code == 0) {
                CHECK.due("what it prints", printed(place), due);
            }
        } finally {
            Files.deleteIfExists(made);
            Files.deleteIfExists(source);
            Files.deleteIfExists(place);
        }
    }

    private static List<String> printed(Path place) throws Exception {
        ByteArrayOutputStream bytes = new ByteArrayOutputStream();
        PrintStream before = System.out;
        try (URLClassLoader loader = new URLClassLoader(new URL[] {place.toUri().toURL()})) {
            System.setOut(new PrintStream(bytes, true));
            loader.loadClass("Example").getMethod("main", String[].class)
                    .invoke(null, (Object) new String[0]);
        } finally {
            System.setOut(before);
        }
        return bytes.toString().lines().toList();
    }

    private static void namesEveryCall(String readme) {
        CHECK.sentence("what the calls are for");
        for (Method method : CompostKeys.class.getDeclaredMethods()) {
            if (Modifier.isPublic(method.getModifiers())) {
                String row = "(?m)^\\|[^|]*`" + method.getName() + "`";
                CHECK.due("a row for " + method.getName(),
                        Pattern.compile(row).matcher(readme).find(), true);
            }
        }
    }
}
