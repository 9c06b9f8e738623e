import java.lang.reflect.InvocationTargetException;
import java.lang.reflect.Method;
import java.util.ArrayList;
import java.util.Comparator;
import java.util.List;

/**
 * Each sentence of the document that names a boundary case has a test of its own in the classes
 * below, which names the promise's number and the sentence (Says). That the sentences stand in the
 * document so, and that none of it is left without a test, is looked at behind them (Document).
 */
public final class BoundaryTest {
    private static final Class<?>[] GROUPS = {TermsBoundaries.class, TextBoundaries.class,
        MachineBoundaries.class, TableBoundaries.class, ChangeBoundaries.class, ShelfBoundaries.class};

    private static int wrong;
    private static String now = "";

    private BoundaryTest() {
    }

    static void wrong(String what) {
        wrong++;
        System.out.println(now + ": " + what);
    }

    private static List<Method> tests() {
        List<Method> found = new ArrayList<>();
        for (Class<?> group : GROUPS) {
            for (Method method : group.getDeclaredMethods()) {
                if (method.isAnnotationPresent(Says.class)) {
                    found.add(method);
                }
            }
        }
        found.sort(Comparator.comparing((Method test) -> test.getAnnotation(Says.class).promise())
                .thenComparing(Method::toString));
        return found;
    }

    private static String nameOf(Says says) {
        return "promise " + says.promise() + (says.terms() ? " (Terms)" : "") + ", '" + says.value() + "'";
    }

    private static void run(Method test) throws IllegalAccessException {
        try {
            test.invoke(null);
        } catch (InvocationTargetException thrown) {
            wrong(String.valueOf(thrown.getCause()));
        }
    }

    public static void main(String[] args) throws Exception {
        List<Method> tests = tests();
        List<Says> sentences = new ArrayList<>();
        for (Method test : tests) {
            sentences.add(test.getAnnotation(Says.class));
            now = nameOf(test.getAnnotation(Says.class));
            run(test);
        }
        now = "the document";
        Document.lookAt(sentences);
        System.out.println(tests.size() + " sentences, " + wrong + " wrong");
        if (wrong != 0) {
            System.exit(1);
        }
    }
}
