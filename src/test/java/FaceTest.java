import java.lang.reflect.Constructor;
import java.lang.reflect.Field;
import java.lang.reflect.Method;
import java.lang.reflect.Modifier;
import java.nio.file.Files;
import java.nio.file.Path;
import java.util.Set;
import java.util.TreeSet;

/** The public face is the document's and no more; the source keeps to the rules that can be seen. */
public final class FaceTest {
    private static final String[] FACE = {"end", "feed", "fault", "text", "rule", "start", "finish", "edge",
        "letter", "wipe", "value", "space", "share", "mean", "prefix", "suffix", "cell", "part", "close",
        "learn", "counter", "ask", "basis", "begins", "ends", "leads", "grow", "drop", "turn", "scale",
        "shrink", "join", "draw", "keep", "back", "differ", "shelf", "lay", "take", "kind"};
    private static final String[] RULED_OUT = {"throw", "try", "catch", "finally", "synchronized", "assert",
        "->", "::", "System.out", "Random", "Object", "Float.", "Double.", "Exact", "package ", "hashCode",
        "toString", "equals", "static {"};

    private static int wrong;

    private static void due(String what, Object got, Object want) {
        if (!got.equals(want)) {
            wrong++;
            System.out.println(what + " is " + got + ", due is " + want);
        }
    }

    private static void lookAtFace() {
        due("the class's sort", Modifier.toString(WeightedWords.class.getModifiers()), "public final");
        Set<String> open = new TreeSet<>();
        Set<String> hidden = new TreeSet<>();
        for (Method method : WeightedWords.class.getDeclaredMethods()) {
            (Modifier.isPrivate(method.getModifiers()) ? hidden : open).add(method.getName());
            for (Class<?> parameter : method.getParameterTypes()) {
                if (Modifier.isPublic(method.getModifiers())) {
                    due("a parameter of " + method.getName(), parameter, int.class);
                }
            }
        }
        due("the methods that are not private", open, new TreeSet<>(Set.of(FACE)));
        for (Class<?> inside : WeightedWords.class.getDeclaredClasses()) {
            due("whether " + inside + " is static", Modifier.isStatic(inside.getModifiers()), true);
            for (Method method : inside.getDeclaredMethods()) {
                hidden.add(method.getName());
            }
        }
        hidden.retainAll(open);
        due("the names of other methods that the face has", hidden, Set.of());
        lookAtFieldsAndConstructors();
    }

    private static void lookAtFieldsAndConstructors() {
        Set<String> fields = new TreeSet<>();
        for (Field field : WeightedWords.class.getDeclaredFields()) {
            if (!Modifier.isPrivate(field.getModifiers())) {
                fields.add(Modifier.toString(field.getModifiers()) + " " + field.getType() + " " + field.getName());
            }
        }
        due("the fields that are not private", fields, new TreeSet<>(Set.of("public static final int BAD",
                "public static final int STATE", "public static final int FULL", "public static final int NONE")));
        Constructor<?>[] constructors = WeightedWords.class.getDeclaredConstructors();
        due("how many constructors", constructors.length, 1);
        due("the constructor", constructors[0].toString(), "public WeightedWords()");
    }

    private static void lookAtSource() throws Exception {
        String source = Files.readString(Path.of("src/main/java/WeightedWords.java"));
        String code = source.replaceAll("(?s)/\\*.*?\\*/", "").replaceAll("//[^\n]*", "");
        for (String word : RULED_OUT) {
            boolean wordy = word.matches("[A-Za-z]+");
            boolean there = wordy ? code.matches("(?s).*\\b" + word + "\\b.*") : code.contains(word);
            due("whether the source has " + word, there, false);
        }
        due("the imports", code.replaceAll("(?s)\\s*(import [^;]*;)\\s*public.*", "$1"), "import java.util.Arrays;");
        due("whether all signs are ASCII", source.chars().allMatch(c -> c < 128), true);
    }

    public static void main(String[] args) throws Exception {
        lookAtFace();
        lookAtSource();
        System.out.println("face and source: " + wrong + " wrong");
        if (wrong != 0) {
            System.exit(1);
        }
    }
}
