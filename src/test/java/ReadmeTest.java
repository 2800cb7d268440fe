import java.io.IOException;
import java.lang.reflect.InvocationTargetException;
import java.lang.reflect.Method;
import java.lang.reflect.Modifier;
import java.net.URL;
import java.net.URLClassLoader;
import java.nio.file.Files;
import java.nio.file.Path;
import java.util.ArrayList;
import java.util.List;
import java.util.Set;
import java.util.TreeSet;
import java.util.regex.Matcher;
import java.util.regex.Pattern;
import java.util.stream.Stream;
import javax.tools.JavaCompiler;
import javax.tools.ToolProvider;

/**
 * Holds README.md to its word: what it shows is compiled and run as it stands there, every call is shown, and every test
 * is named. Run from the project's folder, as .ci/run does.
 */
public final class ReadmeTest {
    private static final Path README = Path.of("README.md"), TESTS = Path.of("src/test/java");
    // A call, perhaps with a name for its answer, and behind it what is due.
    private static final Pattern SHOWN = Pattern.compile("(?:int (\\w+) = )?(.*\\));\\s*// (-?\\w+)(?::.*)?");
    private static int wrong = 0;
    private static int shown = 0;

    private static void fault(String what) {
        wrong++;
        System.out.println(what);
    }

    /** What the program made of the page calls for each line that it shows. */
    public static void due(int line, String call, int want, int got) {
        shown++;
        if (want != got) fault("README.md line " + line + ": " + call + " answers " + got + ", it says " + want);
    }

    private static String constant(String word) {
        return word.matches("[A-Z]+") ? "ShakePictures." + word : word;
    }

    private static String tested(int number, String line) {
        Matcher m = SHOWN.matcher(line.trim());
        if (!m.matches()) {
            if (!line.isBlank() && !line.contains("new ShakePictures()")) fault("README.md line " + number + " shows no answer: " + line);
            return line;
        }
        String call = m.group(2);
        String quoted = "\"" + call.replace("\\", "\\\\").replace("\"", "\\\"") + "\"";
        String named = m.group(1) == null ? "" : "int " + m.group(1) + " = " + call + "; ";
        String got = m.group(1) == null ? call : m.group(1);
        return named + "ReadmeTest.due(" + number + ", " + quoted + ", " + constant(m.group(3)) + ", " + got + ");";
    }

    /** The page's blocks of Java as one program: those of static methods beside its main, the others one after the other in it. */
    private static String program(List<String> page) {
        StringBuilder beside = new StringBuilder(), main = new StringBuilder();
        boolean inside = false, method = false;
        for (int i = 0; i < page.size(); i++) {
            String line = page.get(i);
            if (line.startsWith("```")) {
                inside = line.equals("```java");
                method = inside && i + 1 < page.size() && page.get(i + 1).startsWith("static ");
            } else if (inside && method) {
                beside.append(line).append('\n');
            } else if (inside) {
                main.append(tested(i + 1, line)).append('\n');
            }
        }
        return "public final class Shown {\n" + beside + "public static void main(String[] args) {\n" + main + "}\n}\n";
    }

    private static void run(String program) throws IOException, ReflectiveOperationException {
        Path folder = Files.createTempDirectory("readme");
        Path source = Files.writeString(folder.resolve("Shown.java"), program);
        JavaCompiler compiler = ToolProvider.getSystemJavaCompiler();
        String path = System.getProperty("java.class.path");
        if (compiler.run(null, null, null, "-cp", path, "-d", folder.toString(), source.toString()) != 0) {
            fault("what README.md shows does not compile");
        } else {
            try (URLClassLoader loader = new URLClassLoader(new URL[] {folder.toUri().toURL()}, ReadmeTest.class.getClassLoader())) {
                loader.loadClass("Shown").getMethod("main", String[].class).invoke(null, (Object) new String[0]);
            } catch (InvocationTargetException e) {
                fault("what README.md shows has thrown " + e.getCause());
            }
        }
        for (String name : new String[] {"Shown.java", "Shown.class"}) Files.deleteIfExists(folder.resolve(name));
        Files.deleteIfExists(folder);
    }

    private static void everyCallIsShown(String text) {
        for (Method m : ShakePictures.class.getDeclaredMethods()) {
            if (Modifier.isPublic(m.getModifiers()) && !text.contains("x." + m.getName() + "(")) fault("README.md does not show " + m.getName() + "()");
        }
    }

    /** .ci/run takes what is called *Test, so each file that can be run must be called so, and README.md names just these. */
    private static void everyTestIsNamed(String text) throws IOException {
        Set<String> tests = new TreeSet<>(), named = new TreeSet<>();
        try (Stream<Path> files = Files.list(TESTS)) {
            for (Path file : (Iterable<Path>) files::iterator) {
                String name = file.getFileName().toString().replace(".java", "");
                if (Files.readString(file).contains("public static void main(String[] args)")) tests.add(name);
            }
        }
        Matcher m = Pattern.compile("`(\\w+Test)`").matcher(text);
        while (m.find()) named.add(m.group(1));
        if (!named.equals(tests)) fault("README.md names the tests " + named + ", there are " + tests);
        for (String name : tests) if (!name.endsWith("Test")) fault(".ci/run does not run " + name);
        if (!text.contains("```sh\n.ci/run\n```")) fault("README.md does not say how the tests are run");
        if (!Files.isExecutable(Path.of(".ci/run"))) fault(".ci/run can't be run");
    }

    public static void main(String[] args) throws IOException, ReflectiveOperationException {
        List<String> page = new ArrayList<>(Files.readAllLines(README));
        String text = String.join("\n", page);
        run(program(page));
        everyCallIsShown(text);
        everyTestIsNamed(text);
        System.out.println(shown + " answers shown, " + wrong + " faults");
        if (wrong != 0 || shown < 70) System.exit(1);
    }
}
