import java.io.ByteArrayOutputStream;
import java.io.IOException;
import java.io.PrintStream;
import java.lang.reflect.Field;
import java.lang.reflect.Method;
import java.lang.reflect.Modifier;
import java.net.URL;
import java.net.URLClassLoader;
import java.nio.file.Files;
import java.nio.file.Path;
import java.util.ArrayList;
import java.util.List;
import java.util.TreeSet;
import java.util.regex.Matcher;
import java.util.regex.Pattern;
import java.util.stream.Stream;
import javax.tools.JavaCompiler;
import javax.tools.ToolProvider;

/** README.md: its examples compile and answer as it says there, and it names every call, constant and test. */
final class ReadmeTest {
    /** A call in an example, and the answer that is told behind it. */
    private static final Pattern SHOWN = Pattern.compile(
            "\\s*(System\\.out\\.println\\()?(board\\.\\w+\\(.*?\\))\\)?;\\s+// (-?\\d+|[A-Z_]+): .*");

    private final Checks checks = new Checks();
    private final String page;
    private final Path folder;

    private ReadmeTest() throws IOException {
        page = Files.readString(Path.of("README.md"));
        folder = Files.createTempDirectory("readme");
    }

    public static void main(String[] args) throws IOException {
        ReadmeTest test = new ReadmeTest();
        test.examples();
        test.face();
        test.tests();
        test.removeFolder();
        test.checks.end("ReadmeTest");
    }

    private void examples() throws IOException {
        Matcher blocks = Pattern.compile("(?s)```java\\n(.*?)```").matcher(page);
        int programs = 0;
        int parts = 0;
        while (blocks.find()) {
            String block = blocks.group(1);
            if (block.contains("class Example")) {
                programs++;
                example("Example", block, block);
            } else {
                parts++;
                example("Part" + parts, block, program("Part" + parts, block));
            }
        }
        checks.due("whole programs in README.md", programs, 1);
        checks.holds("each group of calls has an example", parts >= 5);
    }

    /** A program that prints what the calls of an example answer. */
    private static String program(String name, String block) {
        StringBuilder text = new StringBuilder("public final class " + name + " {\n"
                + "    public static void main(String[] args) {\n        BoardEnds board = new BoardEnds();\n");
        for (String line : block.split("\n")) {
            Matcher shown = SHOWN.matcher(line);
            text.append(shown.matches() ? "System.out.println(" + shown.group(2) + ");" : line).append('\n');
        }
        return text.append("    }\n}\n").toString();
    }

    private void example(String name, String block, String program) throws IOException {
        List<String> calls = new ArrayList<>();
        List<Integer> due = new ArrayList<>();
        for (String line : block.split("\n")) {
            Matcher shown = SHOWN.matcher(line);
            if (shown.matches()) {
                calls.add(name + ": " + shown.group(2));
                due.add(valueOf(shown.group(3)));
            } else {
                checks.holds(name + ": an answer is told behind " + line, !line.contains("board."));
            }
        }
        List<String> printed = printedBy(name, program);
        checks.due(name + ": how many answers", printed.size(), due.size());
        for (int i = 0; i < Math.min(printed.size(), due.size()); i++) {
            checks.due(calls.get(i), Long.parseLong(printed.get(i)), due.get(i));
        }
    }

    private static int valueOf(String answer) {
        if (!Character.isLetter(answer.charAt(0))) {
            return Integer.parseInt(answer);
        }
        try {
            return BoardEnds.class.getField(answer).getInt(null);
        } catch (ReflectiveOperationException e) {
            throw new IllegalStateException("README.md tells an answer that is no constant: " + answer, e);
        }
    }

    /** Compiles a program against BoardEnds, runs it, and returns the lines that it prints. */
    private List<String> printedBy(String name, String program) throws IOException {
        Path source = folder.resolve(name + ".java");
        Files.writeString(source, program);
        JavaCompiler compiler = ToolProvider.getSystemJavaCompiler();
        checks.holds("there is a compiler", compiler != null);
        if (compiler == null) {
            return List.of();
        }
        int exit = compiler.run(null, null, null, "--release", "17", "-cp", System.getProperty("java.class.path"),
                "-d", folder.toString(), source.toString());
        checks.due(name + ": javac's exit code", exit, 0);
        return exit == 0 ? run(name) : List.of();
    }

    private List<String> run(String name) throws IOException {
        ByteArrayOutputStream printed = new ByteArrayOutputStream();
        PrintStream out = System.out;
        try (URLClassLoader loader = new URLClassLoader(new URL[] {folder.toUri().toURL()},
                BoardEnds.class.getClassLoader())) {
            System.setOut(new PrintStream(printed, true));
            loader.loadClass(name).getMethod("main", String[].class).invoke(null, (Object) new String[0]);
        } catch (ReflectiveOperationException e) {
            throw new IllegalStateException(name + " could not be run", e);
        } finally {
            System.setOut(out);
        }
        return printed.toString().lines().toList();
    }

    /** Each call has a row in a table and an example, each constant a row with its value. */
    private void face() throws IOException {
        for (Method m : BoardEnds.class.getDeclaredMethods()) {
            if (Modifier.isPublic(m.getModifiers())) {
                String row = "(?m)^\\|.*`" + m.getName() + "\\(.*\\)`.*\\|.*\\|$";
                checks.holds("README.md has a row for " + m.getName(), Pattern.compile(row).matcher(page).find());
                checks.holds("README.md shows " + m.getName(), page.contains("board." + m.getName() + "("));
            }
        }
        for (Field f : BoardEnds.class.getDeclaredFields()) {
            if (Modifier.isPublic(f.getModifiers())) {
                String row = "| `" + f.getName() + "` | " + valueOf(f.getName()) + " |";
                checks.holds("README.md has the row " + row, page.contains(row));
            }
        }
    }

    /** The tests named there are those that stand in the project and in ../shared/tests. */
    private void tests() throws IOException {
        TreeSet<String> named = new TreeSet<>();
        Matcher names = Pattern.compile("\\b([A-Z]\\w*Test)\\b").matcher(page);
        while (names.find()) {
            named.add(names.group(1));
        }
        Path tests = Path.of("src/test/java");
        for (String name : named) {
            checks.holds(name + " stands in the project", Files.exists(tests.resolve(name + ".java")));
        }
        try (Stream<Path> files = Files.list(tests)) {
            for (Path file : files.toList()) {
                String name = file.getFileName().toString().replace(".java", "");
                boolean ofAPromise = name.compareTo("Promise01NewTest") >= 0 && name.compareTo("Promise23") < 0;
                checks.holds("README.md names " + name, ofAPromise || page.contains("`" + name + "`"));
            }
        }
        checks.holds("the shared test named there stands", Files.exists(Path.of("../shared/tests/BoardEndsRuns.java")));
    }

    private void removeFolder() throws IOException {
        try (Stream<Path> files = Files.list(folder)) {
            for (Path file : files.toList()) {
                Files.delete(file);
            }
        }
        Files.delete(folder);
    }
}
