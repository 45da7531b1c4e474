import java.lang.reflect.InvocationTargetException;
import java.lang.reflect.Method;
import java.lang.reflect.Modifier;
import java.util.Arrays;
import java.util.Comparator;
import java.util.List;

/** Runs every test of one sentence, and tells of sentences of the document for which there is none. */
public final class EdgesTest {
    private static final List<Class<?>> GROUPS = List.of(TapeEdges.class, TextEdges.class, ValleyEdges.class,
            RestsEdges.class, WinsEdges.class, ChancesEdges.class, SeenEdges.class);

    public static void main(String[] args) throws IllegalAccessException {
        Edge.open();
        int tests = 0;
        for (Class<?> group : GROUPS) {
            Method[] methods = group.getDeclaredMethods();
            Arrays.sort(methods, Comparator.comparing(Method::getName));
            for (Method one : methods) {
                boolean isTest = one.getName().matches("p\\d\\d\\w+") && !Modifier.isPrivate(one.getModifiers());
                if (isTest) {
                    tests++;
                    runOne(one);
                }
            }
        }
        Edge.close();
        Due.due("there are tests", tests > 250 ? 1 : 0, 1);
        Due.finish("EdgesTest (" + tests + " tests)");
    }

    private static void runOne(Method one) throws IllegalAccessException {
        int before = Edge.quotes();
        try {
            one.invoke(null);
        } catch (InvocationTargetException e) {
            Due.due(one.getName() + " threw " + e.getCause(), 1, 0);
        }
        Due.due(one.getName() + " quotes a sentence", Edge.quotes() > before ? 1 : 0, 1);
        Due.due(one.getName() + " names its promise", Edge.named(), Integer.parseInt(one.getName().substring(1, 3)));
    }
}
