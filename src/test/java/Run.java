import java.lang.reflect.InvocationTargetException;
import java.lang.reflect.Method;
import java.lang.reflect.Modifier;
import java.util.ArrayList;
import java.util.HashMap;
import java.util.List;
import java.util.Map;

/**
 * A run of calls on one new object. A call is told as "name(1, 2)", a row as a call with the answer
 * that is due behind it: a number, or the name of a refusal ("start(0, 4) BAD").
 */
final class Run {
    /** What an object answers behind so many calls is free: so no test may look at it. */
    private static final int MOST_CALLS = 512;

    private static final Map<String, String> REFUSALS = Map.of("BAD", "-1", "STATE", "-2", "FULL", "-3",
            "NONE", "-4", "NULL", "-11", "CAST", "-12", "INDEX", "-13", "STORE", "-14", "EMPTY", "-15",
            "SIZE", "-16");
    private static final Map<String, Method> FACE = face();

    private final WeightedWords object = new WeightedWords();
    private final List<String> trail = new ArrayList<>();

    private static Map<String, Method> face() {
        Map<String, Method> found = new HashMap<>();
        for (Method method : WeightedWords.class.getDeclaredMethods()) {
            if (Modifier.isPublic(method.getModifiers())) {
                found.put(method.getName(), method);
            }
        }
        return found;
    }

    private static Object[] numbers(String inside) {
        if (inside.isBlank()) {
            return new Object[0];
        }
        String[] told = inside.split(",");
        Object[] numbers = new Object[told.length];
        for (int i = 0; i < told.length; i++) {
            numbers[i] = Integer.valueOf(told[i].trim());
        }
        return numbers;
    }

    /** What the program answers to a call; what it throws, if it does. */
    String answer(String call) {
        if (trail.size() >= MOST_CALLS) {
            throw new IllegalStateException("a test of more than " + MOST_CALLS + " calls: " + trail);
        }
        int open = call.indexOf('(');
        Method method = FACE.get(call.substring(0, open));
        String answer;
        try {
            answer = method.invoke(object, numbers(call.substring(open + 1, call.indexOf(')')))).toString();
        } catch (InvocationTargetException thrown) {
            answer = thrown.getCause().toString();
        } catch (IllegalAccessException | IllegalArgumentException wrong) {
            throw new IllegalStateException("no such call: " + call, wrong);
        }
        trail.add(call + " " + answer);
        return answer;
    }

    Run due(String... rows) {
        for (String row : rows) {
            int behind = row.indexOf(')') + 1;
            String want = row.substring(behind).trim();
            String got = answer(row.substring(0, behind));
            if (!got.equals(REFUSALS.getOrDefault(want, want))) {
                BoundaryTest.wrong("due is " + want + " at the end of " + trail);
            }
        }
        return this;
    }

    /** Calls by which a test comes to what it looks at: their answers are not what it is about. */
    Run calls(String... calls) {
        for (String call : calls) {
            answer(call);
        }
        return this;
    }

    Run times(int many, String call) {
        for (int i = 0; i < many; i++) {
            answer(call);
        }
        return this;
    }

    Run feeds(String text) {
        for (char c : text.toCharArray()) {
            answer("feed(" + (int) c + ")");
        }
        return this;
    }

    /** Feeds a text that must be taken. */
    Run read(String text) {
        feeds(text);
        if (answer("text()").startsWith("-")) {
            BoundaryTest.wrong("the text is to be taken, at the end of " + trail);
        }
        return this;
    }

    /** Feeds a text whose answer is due. */
    Run reads(String text, int answer) {
        return feeds(text).due("text() " + answer);
    }

    /** Feeds a text that must be refused with this FAULT at this place. */
    Run faulty(String text, int fault, int place) {
        return reads(text, -10 - place).due("fault() " + fault);
    }

    Run word(String letters) {
        answer("wipe()");
        for (char c : letters.toCharArray()) {
            answer("letter(" + (c - 'a') + ")");
        }
        return this;
    }

    /** The VALUE of a WORD by THE TEACHER. */
    Run values(String letters, int value) {
        return word(letters).due("value(0) " + value);
    }

    /** THE TABLE is ANEW. */
    Run anew() {
        return due("rule(5) 0", "prefix(0) NONE", "rule(6) 1", "suffix(0) 0", "suffix(1) NONE", "rule(7) 0",
                "rule(3) NONE", "counter() STATE", "value(1) STATE");
    }

    @Override
    public String toString() {
        return trail.toString();
    }
}
