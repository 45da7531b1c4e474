import java.io.IOException;
import java.lang.reflect.Method;
import java.lang.reflect.Modifier;
import java.net.URL;
import java.net.URLClassLoader;
import java.nio.file.Files;
import java.nio.file.Path;
import java.util.ArrayList;
import java.util.List;
import java.util.Set;
import java.util.TreeSet;
import java.util.regex.Matcher;
import java.util.regex.Pattern;
import java.util.stream.Stream;
import javax.tools.JavaCompiler;
import javax.tools.ToolProvider;

/**
 * README.md's blocks of Java, compiled and run just as they stand there: each call must answer what the
 * page shows behind it. Each call of the face must be shown; the tables must be right, too.
 */
public final class ReadmeTest {
    private static final Path README = Path.of("README.md");
    private static final Path DOCUMENT = Path.of("../shared/DOC.md");
    private static final Path TESTS = Path.of("src/test/java");
    private static final Pattern MADE = Pattern.compile("CustomValley x = new CustomValley\\(\\); +// .+");
    private static final Pattern SHOWN = Pattern.compile("(\\S.*);\\s+// (-?\\d+|NONE|RANGE|FULL|STATE): \\S.*");

    private final List<String> calls = new ArrayList<>();
    private final List<Integer> wants = new ArrayList<>();
    private final StringBuilder statements = new StringBuilder();
    private final StringBuilder helpers = new StringBuilder();

    public static void main(String[] args) throws Exception {
        String page = Files.readString(README);
        ReadmeTest shown = new ReadmeTest();
        shown.takeBlocks(page);
        shown.run();
        shown.showsEachCall();
        constants(page);
        tests(page);
        Due.finish("ReadmeTest");
    }

    private static void holds(String what, boolean so) {
        Due.due(what, so ? 1 : 0, 1);
    }

    private void takeBlocks(String page) throws ReflectiveOperationException {
        Matcher block = Pattern.compile("(?ms)^```java\\n(.*?)^```$").matcher(page);
        while (block.find()) {
            if (block.group(1).startsWith("static ")) {
                helpers.append(block.group(1));
            } else {
                takeLines(block.group(1).split("\n"));
            }
        }
    }

    /** A line that is no call with its answer would not be held to anything, so it is told. */
    private void takeLines(String[] lines) throws ReflectiveOperationException {
        for (String line : lines) {
            Matcher shown = SHOWN.matcher(line);
            if (MADE.matcher(line).matches()) {
                statements.append(line).append('\n');
            } else if (shown.matches()) {
                statements.append("got[").append(calls.size()).append("] = ").append(shown.group(1)).append(";\n");
                calls.add(shown.group(1));
                wants.add(number(shown.group(2)));
            } else {
                holds("README.md shows a call with its answer, not: " + line, line.isBlank());
            }
        }
    }

    private static int number(String answer) throws ReflectiveOperationException {
        boolean named = Character.isLetter(answer.charAt(0));
        return named ? CustomValley.class.getField(answer).getInt(null) : Integer.parseInt(answer);
    }

    private void run() throws IOException, ReflectiveOperationException {
        Path dir = Files.createTempDirectory("readme");
        try {
            Path file = dir.resolve("ReadmeShown.java");
            Files.writeString(file, source());
            holds("README.md's Java compiles", compiled(dir, file));
            int[] got = Due.wrong() == 0 ? answers(dir) : new int[0];
            for (int i = 0; i < got.length; i++) {
                Due.due("README.md's call " + (i + 1) + ", " + calls.get(i) + ",", got[i], wants.get(i));
            }
        } finally {
            remove(dir);
        }
    }

    private String source() {
        return "public final class ReadmeShown {\n" + helpers + "public static int[] answers() {\n"
                + "int[] got = new int[" + calls.size() + "];\n" + statements + "return got;\n}\n}\n";
    }

    private static boolean compiled(Path dir, Path file) {
        JavaCompiler javac = ToolProvider.getSystemJavaCompiler();
        String classes = System.getProperty("java.class.path");
        return javac != null && javac.run(null, null, null, "-cp", classes, "-d", dir.toString(), file.toString()) == 0;
    }

    private static int[] answers(Path dir) throws IOException, ReflectiveOperationException {
        try (URLClassLoader loader = new URLClassLoader(new URL[] {dir.toUri().toURL()})) {
            return (int[]) loader.loadClass("ReadmeShown").getMethod("answers").invoke(null);
        }
    }

    private static void remove(Path dir) throws IOException {
        try (Stream<Path> files = Files.list(dir)) {
            for (Path one : files.toList()) {
                Files.delete(one);
            }
        }
        Files.delete(dir);
    }

    private void showsEachCall() {
        for (Method one : CustomValley.class.getDeclaredMethods()) {
            if (Modifier.isPublic(one.getModifiers())) {
                boolean shown = calls.stream().anyMatch(call -> call.startsWith("x." + one.getName() + "("));
                holds("README.md shows " + one.getName() + "() with an answer", shown);
            }
        }
    }

    /** The table of constants says what the class and the document say. */
    private static void constants(String page) throws IOException, ReflectiveOperationException {
        String document = Files.readString(DOCUMENT);
        Matcher row = Pattern.compile("(?m)^\\| `(\\w+)` \\| (-?\\d+) \\| (.*) \\|$").matcher(page);
        int rows = 0;
        while (row.find()) {
            rows++;
            Due.due("README.md's " + row.group(1), number(row.group(1)), Integer.parseInt(row.group(2)));
            String said = "`" + row.group(1) + " = " + row.group(2) + "`: " + row.group(3);
            holds("the document says " + said, document.contains(said));
        }
        Due.due("constants in README.md", rows, CustomValley.class.getFields().length);
    }

    /** The table of tests names those that .ci/run runs, and no other. */
    private static void tests(String page) throws IOException {
        Set<String> there = new TreeSet<>();
        try (Stream<Path> files = Files.list(TESTS)) {
            files.map(file -> file.getFileName().toString()).filter(name -> name.endsWith("Test.java"))
                    .forEach(name -> there.add(name.replace(".java", "")));
        }
        Set<String> named = new TreeSet<>();
        Matcher row = Pattern.compile("(?m)^\\| `(\\w+Test)` \\|").matcher(page);
        while (row.find()) {
            named.add(row.group(1));
        }
        holds("README.md names the tests " + there + ", not " + named, there.equals(named));
        holds(".ci/run can be run", page.contains("\n    .ci/run\n") && Files.isExecutable(Path.of(".ci/run")));
    }
}
