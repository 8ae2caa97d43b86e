import java.lang.reflect.Method;
import java.lang.reflect.Modifier;
import java.net.URL;
import java.net.URLClassLoader;
import java.nio.charset.StandardCharsets;
import java.nio.file.Files;
import java.nio.file.Path;
import java.util.TreeSet;
import java.util.regex.Matcher;
import java.util.regex.Pattern;
import javax.tools.JavaCompiler;
import javax.tools.ToolProvider;

/**
 * README.md: its Java compiles as it stands there, and each call in it answers what is told behind it. Runs from the
 * project's root.
 */
public final class ReadmeTest {
    private static final Pattern BLOCK = Pattern.compile("(?m)^```java\\n([\\s\\S]*?)^```$");
    private static final Pattern CALL =
        Pattern.compile("^(\\w+\\.(\\w+)\\(.*\\)); // (-?\\d+|true|false|NONE|NOTHING)(: .*)?$");
    private static int answers = 0;
    private static int wrong = 0;

    private ReadmeTest() {
    }

    public static void main(String[] args) throws Exception {
        TreeSet<String> shown = new TreeSet<>();
        String example = example(Files.readString(Path.of("README.md"), StandardCharsets.UTF_8), shown);
        for (Method m : CarbonMinistry.class.getDeclaredMethods()) {
            if (Modifier.isPublic(m.getModifiers()) && !shown.contains(m.getName())) {
                complain("README.md shows no answer of " + m.getName());
            }
        }
        run(example);
        System.out.println("README.md: " + answers + " answers, " + wrong + " wrong");
        if (wrong != 0 || answers == 0) {
            System.exit(1);
        }
    }

    /** A class of all the page's Java, with a check for each call that is told with its answer. */
    private static String example(String page, TreeSet<String> shown) {
        StringBuilder members = new StringBuilder();
        StringBuilder statements = new StringBuilder();
        Matcher blocks = BLOCK.matcher(page);
        while (blocks.find()) {
            String block = blocks.group(1);
            if (block.startsWith("/**") || block.startsWith("static ")) {
                members.append(block);
            } else {
                block.lines().forEach(line -> statements.append(checked(line, shown)).append('\n'));
            }
        }
        return "final class ReadmeExample {\n" + members + "public static void run() {\n" + statements + "}\n}\n";
    }

    private static String checked(String line, TreeSet<String> shown) {
        Matcher call = CALL.matcher(line);
        if (!call.matches()) {
            if (line.contains("//")) {
                complain("no answer is read from: " + line);
            }
            return line;
        }
        shown.add(call.group(2));
        String answer = call.group(3).startsWith("NO") ? "CarbonMinistry." + call.group(3) : call.group(3);
        String told = line.replace("\\", "\\\\").replace("\"", "\\\"");
        return "ReadmeTest.due(\"" + told + "\", " + call.group(1) + ", " + answer + ");";
    }

    private static void run(String example) throws Exception {
        JavaCompiler compiler = ToolProvider.getSystemJavaCompiler();
        if (compiler == null) {
            complain("there is no compiler here");
            return;
        }
        Path room = Files.createTempDirectory("readme");
        Path source = room.resolve("ReadmeExample.java");
        Files.writeString(source, example, StandardCharsets.UTF_8);
        String path = System.getProperty("java.class.path");
        if (compiler.run(null, null, null, "-encoding", "UTF-8", "-cp", path, "-d", room.toString(), source.toString()) != 0) {
            complain("the Java of README.md does not compile");
            return;
        }
        // By the same loader as this class, so that the example reaches due().
        String name = "ReadmeExample";
        try (URLClassLoader loader = new URLClassLoader(new URL[] {room.toUri().toURL()}, ReadmeTest.class.getClassLoader())) {
            Method run = loader.loadClass(name).getDeclaredMethod("run");
            run.setAccessible(true);
            run.invoke(null);
        }
        Files.deleteIfExists(room.resolve(name + ".class"));
        Files.deleteIfExists(source);
        Files.deleteIfExists(room);
    }

    public static void due(String line, long got, long want) {
        answers++;
        if (got != want) {
            complain(line + " answered " + got);
        }
    }

    public static void due(String line, boolean got, boolean want) {
        answers++;
        if (got != want) {
            complain(line + " answered " + got);
        }
    }

    private static void complain(String what) {
        wrong++;
        System.out.println(what);
    }
}
