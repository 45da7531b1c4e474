import java.lang.management.ManagementFactory;
import java.lang.reflect.Constructor;
import java.lang.reflect.Field;
import java.lang.reflect.Method;
import java.lang.reflect.Modifier;
import java.nio.file.Files;
import java.nio.file.Path;
import java.util.Arrays;
import java.util.List;
import java.util.Set;
import java.util.TreeSet;
import java.util.regex.Matcher;
import java.util.regex.Pattern;
import java.util.stream.Collectors;

/** The public face, the rules of LANGUAGE.md that a search can hold, and that no call makes objects. */
public final class LanguageTest {
    private static final Path SOURCE = Path.of("src/main/java/CustomValley.java");
    private static final Path DOCUMENT = Path.of("../shared/DOC.md");

    public static void main(String[] args) throws Exception {
        face();
        members();
        words();
        methods();
        nothingMade();
        Due.finish("LanguageTest");
    }

    private static void holds(String what, boolean so) {
        Due.due(what, so ? 1 : 0, 1);
    }

    private static String types(Class<?>[] types) {
        return Arrays.stream(types).map(Class::getSimpleName).collect(Collectors.joining(", "));
    }

    private static void face() throws Exception {
        String text = Files.readString(DOCUMENT);
        String face = text.substring(text.indexOf("```java"), text.indexOf("## Terms"));
        Set<String> want = new TreeSet<>();
        Matcher m = Pattern.compile("public (int )?(\\w+)\\(([^)]*)\\);").matcher(face);
        while (m.find()) {
            want.add(m.group(2) + "(" + m.group(3).replaceAll("int \\w+", "int") + ")");
        }
        Set<String> got = new TreeSet<>();
        for (Method one : CustomValley.class.getDeclaredMethods()) {
            if (!Modifier.isPrivate(one.getModifiers())) {
                holds(one + " is public, not static, an int", Modifier.isPublic(one.getModifiers())
                        && !Modifier.isStatic(one.getModifiers()) && one.getReturnType() == int.class);
                got.add(one.getName() + "(" + types(one.getParameterTypes()) + ")");
            }
        }
        for (Constructor<?> one : CustomValley.class.getDeclaredConstructors()) {
            got.add("CustomValley(" + types(one.getParameterTypes()) + ")");
        }
        holds("the face is " + want + ", not " + got, want.equals(got) && want.size() == 38);
        holds("the class is public and final", Modifier.isPublic(CustomValley.class.getModifiers())
                && Modifier.isFinal(CustomValley.class.getModifiers()));
        Matcher c = Pattern.compile("public static final int (\\w+) = (-?\\d+);").matcher(face);
        int constants = 0;
        while (c.find()) {
            constants++;
            Due.due(c.group(1), CustomValley.class.getField(c.group(1)).getInt(null), Integer.parseInt(c.group(2)));
        }
        Due.due("constants", constants, 4);
        Due.due("public fields", CustomValley.class.getFields().length, 4);
    }

    private static void members() {
        Set<String> faces = Arrays.stream(CustomValley.class.getMethods()).map(Method::getName).collect(Collectors.toSet());
        Class<?>[] inside = CustomValley.class.getDeclaredClasses();
        holds("at most twelve classes", inside.length < 12);
        checkFields(CustomValley.class);
        for (Class<?> one : inside) {
            holds(one + " is static", Modifier.isStatic(one.getModifiers()));
            checkFields(one);
            for (Method method : one.getDeclaredMethods()) {
                holds(method + " bears no name of the face", !faces.contains(method.getName()));
            }
        }
        for (Method one : CustomValley.class.getDeclaredMethods()) {
            holds(one + " bears no name of the face", Modifier.isPublic(one.getModifiers()) || !faces.contains(one.getName()));
        }
    }

    private static void checkFields(Class<?> one) {
        int fields = 0;
        for (Field f : one.getDeclaredFields()) {
            if (Modifier.isStatic(f.getModifiers())) {
                holds(f + " is final", Modifier.isFinal(f.getModifiers()));
            } else {
                fields++;
            }
        }
        holds(one + " has some twenty fields, not " + fields, fields <= 20);
    }

    private static String bare() throws Exception {
        return Files.readString(SOURCE).replaceAll("(?s)/\\*.*?\\*/", "").replaceAll("//[^\n]*", "");
    }

    private static void words() throws Exception {
        String code = bare();
        List<String> barred = List.of("throw", "throws", "try", "catch", "finally", "synchronized", "assert", "package",
                "Object", "Exception", "System\\.(?!arraycopy)", "Math\\.\\w*Exact", "toString", "hashCode", "null",
                "protected", "volatile", "native", "Thread", "Random");
        for (String word : barred) {
            holds("no " + word, !Pattern.compile("\\b" + word + (word.endsWith(")") ? "" : "\\b")).matcher(code).find());
        }
        holds("no lambda, no method reference", !code.contains("->") && !code.contains("::"));
        Matcher m = Pattern.compile("import ([^;]*);").matcher(code);
        while (m.find()) {
            holds("import " + m.group(1), m.group(1).equals("java.util.Arrays"));
        }
        Matcher made = Pattern.compile("\\n( *)[^\\n]*\\bnew (\\w+)").matcher(code);
        while (made.find()) {
            holds("new " + made.group(2) + " stands in a field or the constructor", made.group(1).length() == 8);
        }
        holds("plain signs", code.chars().allMatch(c -> c < 128));
    }

    private static void methods() throws Exception {
        String[] lines = Files.readString(SOURCE).split("\n");
        Pattern head = Pattern.compile("^( {4}| {8})(?! )[\\w\\[\\]. ]+\\(([^)]*)\\) \\{$");
        for (int i = 0; i < lines.length; i++) {
            Matcher m = head.matcher(lines[i]);
            if (!m.find()) {
                continue;
            }
            int end = i;
            while (!lines[end].equals(m.group(1) + "}")) {
                end++;
            }
            holds("short: " + lines[i], end - i <= 60);
            holds("at most seven parameters: " + lines[i], m.group(2).split(",").length <= 7);
            holds("a line of some hundred signs: " + i, lines[i].length() <= 120);
        }
    }

    /** All rows are made with the object; what a call makes would add up in the one room of a run. */
    private static void nothingMade() {
        com.sun.management.ThreadMXBean bean = (com.sun.management.ThreadMXBean) ManagementFactory.getThreadMXBean();
        long id = Thread.currentThread().getId();
        long before = bean.getThreadAllocatedBytes(id);
        CustomValley x = new CustomValley();
        long made = bean.getThreadAllocatedBytes(id) - before;
        holds("an object takes less than 400000 bytes, not " + made, made < 400000);
        long least = Long.MAX_VALUE;
        for (int i = 0; i < 5; i++) {
            long start = bean.getThreadAllocatedBytes(id);
            useAll(x);
            least = Math.min(least, bean.getThreadAllocatedBytes(id) - start);
        }
        holds("calls make nothing, not " + least + " bytes", least < 2000);
    }

    private static void useAll(CustomValley x) {
        x.feed(0x70656f70, 0x6c652033, 0x3b207374, 0x6179733b, 0x20202020);
        x.valley();
        x.fewest(0, 7);
        x.comes(1, 0);
        x.between(0, 1);
        x.tree(0);
        x.winners();
        x.radius(0);
        x.coradius(0);
        x.shortly();
        x.carried(1, 0);
        x.bound(1);
        x.gift(1);
        x.flow(0, 50, 3);
        x.partsOf(0);
        x.run(0, 1, 100, 3);
        x.feed(0x30313130, 0, 0, 0, 0);
        x.judge(0);
        x.see(0, 0, 0);
        x.see(0, 1, 5);
        x.right(0, 0, 3);
        x.likeliest(0);
    }
}
