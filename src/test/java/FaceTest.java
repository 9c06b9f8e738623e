import java.lang.reflect.Constructor;
import java.lang.reflect.Field;
import java.lang.reflect.Method;
import java.lang.reflect.Modifier;
import java.nio.file.Files;
import java.nio.file.Path;
import java.util.ArrayList;
import java.util.Arrays;
import java.util.List;
import java.util.Set;
import java.util.TreeSet;
import java.util.regex.Matcher;
import java.util.regex.Pattern;

/** The public face is the document's and no more, and the source has its calls under the document's heads. */
public final class FaceTest {
    private static final Path DOCUMENT = Path.of("../shared/DOC.md");
    private static final Path PROGRAM = Path.of("src/main/java/WeightedWords.java");

    /** As it stands under 'The public face'. */
    private static final String FACE = """
            public final class WeightedWords {
                public static final int BAD = -1, STATE = -2, FULL = -3, NONE = -4;
                public WeightedWords();
                public int feed(int c);
                public int end(int n);
                public int text();
                public int fault();
                public int rule(int what);
                public int start(int m, int s);
                public int finish(int m, int s);
                public int edge(int m, int s, int x, int t);
                public int letter(int x);
                public int wipe();
                public int value(int m);
                public int space(int m, int what);
                public int share(int m, int n);
                public long mean(int m, int n);
                public int prefix(int i);
                public int suffix(int i);
                public int cell(int r, int c);
                public int part(int r, int j);
                public int close();
                public int learn();
                public int counter();
                public int ask(int n);
                public int basis(int i);
                public int begins(int s, int v);
                public int ends(int s, int v);
                public int leads(int s, int x, int t, int v);
                public int grow();
                public int drop(int s);
                public int turn();
                public int scale(int v);
                public int shrink();
                public int join(int k);
                public int draw(int seed, int n);
                public int keep(int k);
                public int back(int k);
                public int differ(int k);
                public int shelf(int k, int lane, int n);
                public int lay(int k, int i, int m);
                public int take(int k, int lane, int i);
                public int kind(int k, int i);
            }
            """;

    /** What the interface says ahead of calls: the first of them, and the words. */
    private static final String[][] HEADS = {{"feed", "the text"}, {"start", "machines, words"},
        {"prefix", "the table"}, {"begins", "changes of THE TEACHER"}, {"keep", "images, shelves"}};

    private static int wrong;

    private static void due(String what, Object got, Object want) {
        if (!got.equals(want)) {
            wrong++;
            System.out.println(what + " is " + got + ", due is " + want);
        }
    }

    /** The lines of methods, in the document's order. */
    private static List<String> faceLines() {
        List<String> lines = new ArrayList<>();
        for (String line : FACE.split("\n")) {
            if (line.matches(" +public (int|long) \\w+\\(.*\\);")) {
                lines.add(line.trim().replace(";", ""));
            }
        }
        return lines;
    }

    private static String withoutNames(String line) {
        return line.replaceAll("int \\w+([,)])", "int$1");
    }

    private static void lookAtMethods() {
        Set<String> due = new TreeSet<>();
        Set<String> names = new TreeSet<>();
        for (String line : faceLines()) {
            due.add(withoutNames(line));
            names.add(line.replaceAll("public \\w+ (\\w+).*", "$1"));
        }
        Set<String> open = new TreeSet<>();
        Set<String> hidden = new TreeSet<>();
        for (Method method : WeightedWords.class.getDeclaredMethods()) {
            if (Modifier.isPrivate(method.getModifiers())) {
                hidden.add(method.getName());
            } else {
                open.add(method.toString().replace("WeightedWords.", "").replace(",", ", "));
            }
        }
        for (Class<?> inside : WeightedWords.class.getDeclaredClasses()) {
            due("whether " + inside + " is static", Modifier.isStatic(inside.getModifiers()), true);
            due("whether " + inside + " can be seen", Modifier.isPublic(inside.getModifiers())
                    || Modifier.isProtected(inside.getModifiers()), false);
            for (Method method : inside.getDeclaredMethods()) {
                hidden.add(method.getName());
            }
        }
        due("the methods that are not private", open, due);
        hidden.retainAll(names);
        due("the names of other methods that the face has", hidden, Set.of());
    }

    private static void lookAtFieldsAndConstructors() throws IllegalAccessException {
        Set<String> fields = new TreeSet<>();
        for (Field field : WeightedWords.class.getDeclaredFields()) {
            if (!Modifier.isPrivate(field.getModifiers())) {
                fields.add(field.toString().replace("WeightedWords.", "") + " = " + field.get(null));
            }
        }
        due("the fields that are not private", fields, new TreeSet<>(Set.of("public static final int BAD = -1",
                "public static final int STATE = -2", "public static final int FULL = -3",
                "public static final int NONE = -4")));
        Constructor<?>[] constructors = WeightedWords.class.getDeclaredConstructors();
        due("the constructors", Arrays.toString(constructors), "[public WeightedWords()]");
        due("the class's sort", Modifier.toString(WeightedWords.class.getModifiers()), "public final");
        due("what it is a kind of", WeightedWords.class.getSuperclass(), Object.class);
        due("how many interfaces it has", WeightedWords.class.getInterfaces().length, 0);
    }

    /** The calls of the source, in its order, with the parameters' names; heads come between them. */
    private static void lookAtSource() throws Exception {
        List<String> due = new ArrayList<>();
        for (String line : faceLines()) {
            for (String[] head : HEADS) {
                if (line.contains(" " + head[0] + "(")) {
                    due.add("---- " + head[1]);
                }
            }
            due.add(line);
        }
        List<String> found = new ArrayList<>();
        Matcher rows = Pattern.compile("(?m)^    (?:// (---- .*)|(public (?:int|long) \\w+\\([^)]*\\)) \\{)$")
                .matcher(Files.readString(PROGRAM));
        while (rows.find()) {
            found.add(rows.group(1) != null ? rows.group(1) : rows.group(2));
        }
        due("the face in the source", found.subList(0, Math.min(found.size(), due.size())), due);
    }

    private static void lookAtDocument() throws Exception {
        if (!Files.isReadable(DOCUMENT)) {
            System.out.println("there is no " + DOCUMENT + ": the face is not looked up in it");
            return;
        }
        String document = Files.readString(DOCUMENT);
        due("whether the document has this face", document.contains("```java\n" + FACE + "```"), true);
        for (String[] head : HEADS) {
            due("whether the document has the head " + head[1], document.matches("(?s).*\nAhead of the calls `"
                    + head[0] + "`,[^\n]* the interface says: ---- " + head[1] + "\\.\n.*"), true);
        }
    }

    public static void main(String[] args) throws Exception {
        lookAtMethods();
        lookAtFieldsAndConstructors();
        lookAtSource();
        lookAtDocument();
        System.out.println("the face: " + wrong + " wrong");
        if (wrong != 0) {
            System.exit(1);
        }
    }
}
