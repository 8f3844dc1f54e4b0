import java.io.IOException;
import java.io.PrintWriter;
import java.io.StringWriter;
import java.lang.reflect.Method;
import java.lang.reflect.Modifier;
import java.net.URL;
import java.net.URLClassLoader;
import java.nio.file.DirectoryStream;
import java.nio.file.Files;
import java.nio.file.Path;
import java.util.ArrayList;
import java.util.List;
import java.util.Set;
import java.util.TreeSet;
import java.util.regex.Matcher;
import java.util.regex.Pattern;
import javax.tools.ToolProvider;

/**
 * The calls that README.md shows as the use of the class, with the answers that it tells of them: its blocks of Java
 * are put together as one program, which is compiled and run here.
 */
public final class ReadmeTest {
    private static final Path README = Path.of("README.md");
    private static final Path TESTS = Path.of("src/test/java");
    private static final Pattern CALL = Pattern.compile("(x\\.([a-z]+)\\(.*\\)); *// ([^ :]+)(:.*)?");
    private static final String[] IMPORTS = {
        "import java.nio.ByteBuffer;", "import java.nio.charset.StandardCharsets;", "import java.util.Arrays;"};

    private final List<String> methods = new ArrayList<>();
    private final List<String> calls = new ArrayList<>();
    private final Set<String> told = new TreeSet<>();

    /** One line of the page's Java; a call becomes a look at its answer. */
    private String asCode(int number, String line) {
        Matcher m = CALL.matcher(line);
        if (!m.matches()) {
            Check.due("line " + number + " has a call without an answer: " + line, line.startsWith("x."), false);
            return line;
        }
        told.add(m.group(2));
        String answer = m.group(3).replaceAll("^(NONE|FOUL)$", "NinepinAlley.$1");
        String name = "README.md, line " + number + ": " + m.group(1);
        return "Check.due(\"" + name + "\", " + m.group(1) + ", " + answer + ");";
    }

    private void read() throws IOException {
        List<String> lines = Files.readAllLines(README);
        boolean inJava = false;
        boolean inMethod = false;
        for (int i = 0; i < lines.size(); i++) {
            String line = lines.get(i);
            if (line.startsWith("```")) {
                inJava = line.equals("```java");
                inMethod = false;
            } else if (inJava) {
                inMethod = inMethod || line.startsWith("static ");
                if (inMethod) {
                    methods.add(line);
                } else {
                    calls.add(asCode(i + 1, line));
                }
            }
        }
    }

    private String program() {
        StringWriter text = new StringWriter();
        PrintWriter out = new PrintWriter(text);
        for (String line : IMPORTS) {
            out.println(line);
        }
        out.println("public final class ReadmeUse {");
        methods.forEach(out::println);
        out.println("public static void main(String[] args) {");
        calls.forEach(out::println);
        out.println("}");
        out.println("}");
        return text.toString();
    }

    private void run() throws IOException, ReflectiveOperationException {
        Path dir = Files.createTempDirectory("readme");
        Path source = dir.resolve("ReadmeUse.java");
        Files.writeString(source, program());
        int code = ToolProvider.getSystemJavaCompiler().run(null, null, null, "-Xlint:all", "-Werror",
                "-cp", System.getProperty("java.class.path"), "-d", dir.toString(), source.toString());
        Check.due("javac of the calls in README.md", code, 0);
        if (code == 0) {
            runIn(dir);
        }
        remove(dir);
    }

    private static void runIn(Path dir) throws IOException, ReflectiveOperationException {
        try (URLClassLoader loader = new URLClassLoader(new URL[] {dir.toUri().toURL()})) {
            Method main = loader.loadClass("ReadmeUse").getDeclaredMethod("main", String[].class);
            main.invoke(null, (Object) new String[0]);
        }
    }

    private static void remove(Path dir) throws IOException {
        try (DirectoryStream<Path> files = Files.newDirectoryStream(dir)) {
            for (Path file : files) {
                Files.delete(file);
            }
        }
        Files.delete(dir);
    }

    /** The page shows every call of the face. */
    private void everyCallIsTold() {
        for (Method m : NinepinAlley.class.getDeclaredMethods()) {
            if (Modifier.isPublic(m.getModifiers())) {
                Check.due("README.md shows " + m.getName(), told.contains(m.getName()), true);
            }
        }
    }

    /** The page has a row for every test, and no other. */
    private static void everyTestIsTold() throws IOException {
        Set<String> rows = new TreeSet<>();
        Matcher m = Pattern.compile("(?m)^\\| `([A-Za-z]+Test)` \\|").matcher(Files.readString(README));
        while (m.find()) {
            rows.add(m.group(1));
        }
        try (DirectoryStream<Path> files = Files.newDirectoryStream(TESTS, "*Test.java")) {
            for (Path file : files) {
                String name = file.getFileName().toString().replace(".java", "");
                Check.due("README.md has a row for " + name, rows.remove(name), true);
            }
        }
        Check.due("rows of README.md without a test: " + rows, rows.size(), 0);
    }

    public static void main(String[] args) throws IOException, ReflectiveOperationException {
        ReadmeTest page = new ReadmeTest();
        page.read();
        page.run();
        page.everyCallIsTold();
        everyTestIsTold();
        Check.end();
    }
}
