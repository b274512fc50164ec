import java.io.ByteArrayOutputStream;
import java.io.IOException;
import java.io.PrintStream;
import java.lang.reflect.Method;
import java.lang.reflect.Modifier;
import java.net.URL;
import java.net.URLClassLoader;
import java.nio.charset.StandardCharsets;
import java.nio.file.Files;
import java.nio.file.Path;
import java.util.List;
import java.util.stream.Collectors;
import java.util.stream.Stream;
import javax.tools.ToolProvider;

/** README.md: its example prints what it says, and no call and no test is missing from it. */
public final class ReadmeTest {
    private static final Check CHECK = new Check("ReadmeTest");

    /** Runs in the checkout's own directory. */
    public static void main(String[] args) throws Exception {
        String readme = Files.readString(Path.of("README.md"));
        examplePrintsWhatItSays(readme);
        namesEveryCall(readme);
        namesEveryFileOfTests(readme);
        CHECK.end();
    }

    private static void examplePrintsWhatItSays(String readme) throws Exception {
        List<String> due = block(readme, "text").lines().collect(Collectors.toList());
        List<String> got = printed(block(readme, "java")).lines().collect(Collectors.toList());
        CHECK.same("lines that the example prints", got.size(), due.size());
        for (int k = 0; k < Math.min(got.size(), due.size()); k++) {
            CHECK.holds("the example prints " + got.get(k), got.get(k).equals(due.get(k)));
        }
    }

    /** What stands in the first block of this kind. */
    private static String block(String readme, String kind) {
        String open = "```" + kind + "\n";
        int from = readme.indexOf(open);
        CHECK.holds("README.md has a block of " + kind, from >= 0);
        return readme.substring(from + open.length(), readme.indexOf("```", from + open.length()));
    }

    private static String printed(String example) throws Exception {
        Path room = Files.createTempDirectory("readme");
        try {
            Path source = room.resolve("Example.java");
            Files.writeString(source, "public final class Example {\n"
                    + "public static void main(String[] args) {\n" + example + "}\n}\n");
            int failed = ToolProvider.getSystemJavaCompiler().run(null, null, null, "-cp",
                    System.getProperty("java.class.path"), "-d", room.toString(), source.toString());
            CHECK.same("compiling the example", failed, 0);
            return failed == 0 ? printedBy(room) : "";
        } finally {
            clear(room);
        }
    }

    private static String printedBy(Path room) throws Exception {
        ByteArrayOutputStream caught = new ByteArrayOutputStream();
        PrintStream out = System.out;
        System.setOut(new PrintStream(caught, true, StandardCharsets.UTF_8));
        try (URLClassLoader classes = new URLClassLoader(new URL[] {room.toUri().toURL()})) {
            Method main = classes.loadClass("Example").getMethod("main", String[].class);
            main.invoke(null, (Object) new String[0]);
        } finally {
            System.setOut(out);
        }
        return caught.toString(StandardCharsets.UTF_8);
    }

    private static void clear(Path room) throws IOException {
        try (Stream<Path> files = Files.list(room)) {
            for (Path file : files.collect(Collectors.toList())) {
                Files.delete(file);
            }
        }
        Files.delete(room);
    }

    private static void namesEveryCall(String readme) {
        for (Method one : ParticleBox.class.getDeclaredMethods()) {
            if (Modifier.isPublic(one.getModifiers())) {
                String name = one.getName();
                CHECK.holds("README.md tells of " + name, readme.contains("| `" + name + "("));
            }
        }
    }

    private static void namesEveryFileOfTests(String readme) throws IOException {
        try (Stream<Path> files = Files.list(Path.of("src/test/java"))) {
            for (Path file : files.collect(Collectors.toList())) {
                String name = file.getFileName().toString().replace(".java", "");
                CHECK.holds("README.md tells of " + name, readme.contains("`" + name + "`"));
            }
        }
    }
}
