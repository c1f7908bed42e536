import java.io.IOException;
import java.lang.reflect.InvocationTargetException;
import java.lang.reflect.Method;
import java.lang.reflect.Modifier;
import java.net.URL;
import java.net.URLClassLoader;
import java.nio.file.DirectoryStream;
import java.nio.file.Files;
import java.nio.file.Path;
import java.util.List;
import java.util.TreeSet;
import java.util.regex.Matcher;
import java.util.regex.Pattern;
import javax.tools.ToolProvider;

/** What README.md says is so: its example is compiled and run, its tables name every call and every test. */
public final class ReadmeTest {
    private static final Pattern EXAMPLE = Pattern.compile("(?s)```java\\n(.*?)```");
    private static final Pattern ANSWERED = Pattern.compile("(?:int (\\w+) = )?(x\\.\\w+\\(.*?\\)); *// (-?\\d+)(?!\\d).*");
    /** The example is loaded by a loader of its own, to which only what is public here is open: it hands its answers out. */
    private static final String HEAD = "public final class Example {\npublic static java.util.List<Object[]> run() {\n"
        + "java.util.List<Object[]> all = new java.util.ArrayList<>();\n";
    private static final Pattern CALL = Pattern.compile("x\\.\\w+\\(");

    public static void main(String[] args) throws IOException, ReflectiveOperationException {
        String readme = Files.readString(Path.of("README.md"));
        Due.test("README.md");
        example(readme);
        calls(readme);
        tests(readme);
        Due.end();
    }

    /** Each line with an answer behind it becomes a line that compares the two. */
    static void example(String readme) throws IOException, ReflectiveOperationException {
        Matcher block = EXAMPLE.matcher(readme);
        boolean there = block.find();
        Due.holds("there is an example", there);
        if (!there) {
            return;
        }
        StringBuilder source = new StringBuilder(HEAD);
        int answers = 0;
        for (String line : block.group(1).split("\n")) {
            Matcher answered = ANSWERED.matcher(line);
            if (answered.matches()) {
                answers++;
                String var = answered.group(1);
                String call = answered.group(2);
                source.append(var == null ? "" : "int " + var + " = (int) " + call + ";\n");
                source.append("all.add(new Object[] {\"").append(call).append("\", (long) ").append(var == null ? call : var)
                    .append(", ").append(answered.group(3)).append("L});\n");
            } else {
                boolean indented = line.startsWith(" ");
                Due.holds("an answer stands behind " + line, indented || !CALL.matcher(line).find());
                source.append(line).append('\n');
            }
        }
        Due.holds("the example has answers", answers > 20);
        runs(source.append("return all;\n}\n}\n").toString(), answers);
    }

    static void runs(String source, int answers) throws IOException, ReflectiveOperationException {
        Path dir = Files.createTempDirectory("readme");
        Path file = dir.resolve("Example.java");
        try {
            Files.writeString(file, source);
            int failed = ToolProvider.getSystemJavaCompiler().run(null, null, null, "-d", dir.toString(), "-cp",
                System.getProperty("java.class.path"), file.toString());
            Due.is("the example is compiled", failed, 0);
            if (failed != 0) {
                return;
            }
            try (URLClassLoader loader = new URLClassLoader(new URL[] {dir.toUri().toURL()})) {
                List<?> all = (List<?>) loader.loadClass("Example").getMethod("run").invoke(null);
                Due.is("answers of the example", all.size(), answers);
                for (Object one : all) {
                    Object[] answer = (Object[]) one;
                    Due.is((String) answer[0], (Long) answer[1], (Long) answer[2]);
                }
            } catch (InvocationTargetException e) {
                Due.holds("the example threw " + e.getCause(), false);
            }
        } finally {
            Files.deleteIfExists(dir.resolve("Example.class"));
            Files.deleteIfExists(file);
            Files.deleteIfExists(dir);
        }
    }

    static void calls(String readme) {
        for (Method m : NameThrownBack.class.getDeclaredMethods()) {
            if (Modifier.isPublic(m.getModifiers())) {
                Due.holds("tells of " + m.getName(), readme.contains("`" + m.getName() + "`"));
            }
        }
        for (String constant : new String[] {"NONE", "BAD", "STATE", "FULL", "NO"}) {
            Due.holds("tells of " + constant, readme.contains("`" + constant + "`"));
        }
    }

    static void tests(String readme) throws IOException {
        TreeSet<String> told = new TreeSet<>();
        Matcher name = Pattern.compile("\\| `(\\w+Test)` \\|").matcher(readme);
        while (name.find()) {
            Due.holds(name.group(1) + " is told once", told.add(name.group(1)));
        }
        told.add("QuotesTest");
        TreeSet<String> there = new TreeSet<>();
        try (DirectoryStream<Path> all = Files.newDirectoryStream(Path.of("src/test/java"), "*Test.java")) {
            for (Path file : all) {
                there.add((file.getFileName() + "").replace(".java", ""));
            }
        }
        Due.holds("told are " + told + ", there are " + there, told.equals(there));
        for (Class<?> inside : NameThrownBack.class.getDeclaredClasses()) {
            Due.holds("tells of " + inside.getSimpleName(), readme.contains("- `" + inside.getSimpleName() + "`: "));
        }
    }
}
