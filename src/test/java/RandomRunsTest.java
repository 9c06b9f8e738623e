import java.lang.reflect.Method;
import java.util.ArrayList;
import java.util.HashMap;
import java.util.List;
import java.util.Map;
import java.util.Random;

/**
 * Runs of calls drawn by fixed seeds, each call made of the program and of the Oracle alike.
 * Arguments, if any: how many runs, the first seed.
 */
public final class RandomRunsTest {
    private static final int CALLS = 512;
    private static final int[] ODD = {-1, -2, 3, 4, 5, 6, 7, 8, 9, 12, 13, 96, 97, 128, 200, 1000,
        Integer.MAX_VALUE, Integer.MIN_VALUE};
    private static final String[] PRIMES = {"2", "2", "3", "3", "5", "7", "11", "97", "89", "4", "1", "98"};

    private static final Map<String, Method> PROGRAM = methodsOf(WeightedWords.class);
    private static final Map<String, Method> ORACLE = methodsOf(Oracle.class);

    private final Random random;
    private final long seed;
    private final WeightedWords program = new WeightedWords();
    private final Oracle oracle = new Oracle();
    private final List<String> trail = new ArrayList<>();
    private boolean wrong;
    /** One number in so many is off, one step in so many changes THE TEACHER. */
    private final int oddness;
    private final int calmness;

    private RandomRunsTest(long seed) {
        this.seed = seed;
        random = new Random(seed);
        oddness = pick(2) == 0 ? 14 : 80;
        calmness = new int[] {4, 20, 60}[pick(3)];
    }

    private static Map<String, Method> methodsOf(Class<?> owner) {
        Map<String, Method> found = new HashMap<>();
        for (Method method : owner.getDeclaredMethods()) {
            if (java.lang.reflect.Modifier.isPublic(method.getModifiers())) {
                found.put(method.getName(), method);
            }
        }
        return found;
    }

    private static String tell(Method method, Object object, Object[] arguments) {
        try {
            return method.invoke(object, arguments).toString();
        } catch (ReflectiveOperationException thrown) {
            return String.valueOf(thrown.getCause());
        }
    }

    private int pick(int bound) {
        return random.nextInt(bound);
    }

    /** A number below the bound mostly, now and then one that is off. */
    private int some(int bound) {
        return pick(oddness) == 0 ? ODD[pick(ODD.length)] : pick(bound);
    }

    private void call(String name, Object... arguments) {
        if (wrong || trail.size() >= CALLS) {
            return;
        }
        String due = tell(ORACLE.get(name), oracle, arguments);
        String got = tell(PROGRAM.get(name), program, arguments);
        trail.add(name + java.util.Arrays.toString(arguments) + " " + got);
        if (!got.equals(due)) {
            wrong = true;
            System.out.println("seed " + seed + ": due is " + due + " at the end of " + trail);
        }
    }

    /** A number that a call takes as it stands, if there are any such. */
    private int one(int what) {
        return some(Math.max(1, what));
    }

    private int letter() {
        return one(oracle.rule(1));
    }

    private int state(int m) {
        return one(m == 1 ? oracle.rule(3) : m == 2 ? oracle.rule(4) : oracle.rule(2));
    }

    private int residue() {
        return one(pick(3) == 0 ? oracle.rule(0) : 2);
    }

    private int row() {
        return one(oracle.rule(5) * (1 + oracle.rule(1)));
    }

    private void run() {
        switch (pick(4)) {
            case 0: break;
            case 1: tellText(); break;
            default: read("prime " + PRIMES[pick(9)] + ";letters " + (1 + pick(3)) + ";"); break;
        }
        changeCall();
        while (!wrong && trail.size() < CALLS) {
            step();
        }
    }

    private void step() {
        if (pick(calmness) == 0) {
            pick3(this::changeCall, this::drawCall, pick(4) == 0 ? this::tapeCall : this::small);
        }
        switch (pick(10)) {
            case 0: imageCall(); break;
            case 1: shelfCall(); break;
            case 2: wordCall(); break;
            case 3: case 4: machineCall(); break;
            case 5: call("rule", some(13)); break;
            case 6: askAndLearn(); break;
            default: tableCall(); break;
        }
    }

    private void pick3(Runnable one, Runnable two, Runnable three) {
        int i = pick(3);
        (i == 0 ? one : i == 1 ? two : three).run();
    }

    private void tapeCall() {
        switch (pick(6)) {
            case 0: call("feed", some(128)); break;
            case 1: call("end", one(oracle.rule(10) + 1)); break;
            case 2: call("text"); call("fault"); break;
            case 3: fill(); break;
            default: tellText(); break;
        }
    }

    /** A tape that is as long as may be. */
    private void fill() {
        while (!wrong && trail.size() < CALLS && oracle.rule(10) < 200) {
            call("feed", pick(50) == 0 ? 59 : 32);
        }
        call("feed", 32);
        call("end", one(202));
        pick3(() -> call("text"), () -> call("end", 3), () -> call("rule", 10));
    }

    private void drawCall() {
        call("draw", random.nextInt(), pick(3) == 0 ? some(5) : 3 + pick(2));
        if (pick(2) == 0) {
            askAndLearn();
        }
    }

    private void askAndLearn() {
        for (int i = pick(3) == 0 ? pick(8) : 0; i > 0; i--) {
            call("ask", some(pick(2) == 0 ? 364 : 63));
        }
        if (pick(3) == 0) {
            call("close");
        }
        for (int i = pick(4); i > 0; i--) {
            call("learn");
            lookAtTable();
        }
    }

    private void changeCall() {
        switch (pick(12)) {
            case 0: call("begins", state(0), residue()); break;
            case 1: call("ends", state(0), residue()); break;
            case 2: case 3: call("leads", state(0), letter(), state(0), residue()); break;
            case 4: call("grow"); break;
            case 5: call("drop", state(0)); break;
            case 6: call("turn"); break;
            case 7: call("scale", residue()); break;
            case 8: call("shrink"); break;
            case 9: call("join", some(2)); break;
            case 10: small(); break;
            default: drawCall(); break;
        }
    }

    /** A machine told by hand, a chain with few weights beside it: what is drawn differs soon. */
    private void small() {
        call("draw", 0, 0);
        int states = 1 + pick(4);
        for (int i = 0; i < states; i++) {
            call("grow");
        }
        call("begins", pick(2) == 0 ? 0 : state(0), 1);
        call("ends", pick(2) == 0 ? states - 1 : state(0), 1);
        for (int s = 0; s + 1 < states; s++) {
            call("leads", s, letter(), s + 1, residue());
        }
        for (int i = pick(5); i > 0; i--) {
            call("leads", state(0), letter(), state(0), residue());
        }
    }

    private void imageCall() {
        switch (pick(4)) {
            case 0: call("keep", some(2)); break;
            case 1: call("back", some(2)); break;
            case 2: call("differ", some(2)); break;
            default: call("rule", 11); break;
        }
    }

    private void shelfCall() {
        switch (pick(12)) {
            case 0: call("shelf", some(3), some(3), some(9)); break;
            case 1: call("shelf", some(3), some(3), pick(2) == 0 ? 3 : -pick(3)); break;
            case 2: case 3: case 4: case 5: call("lay", some(3), some(4), some(3)); break;
            case 6: call("take", some(3), some(3), some(4)); break;
            case 7: call("rule", 12); break;
            default: call("kind", some(3), some(4)); break;
        }
    }

    private void tableCall() {
        switch (pick(12)) {
            case 0: call("close"); break;
            case 1: call("learn"); break;
            case 2: call("counter"); break;
            case 3: call("ask", some(pick(2) == 0 ? 370 : 63)); break;
            case 4: call("basis", some(4)); break;
            default: lookAtTable(); break;
        }
    }

    private void lookAtTable() {
        switch (pick(8)) {
            case 0: call("prefix", one(oracle.rule(5))); break;
            case 1: call("suffix", one(oracle.rule(6))); break;
            case 2: call("cell", row(), one(oracle.rule(6))); break;
            case 3: case 4: call("part", row(), one(oracle.rule(5))); break;
            case 5: call("rule", 8); break;
            case 6: call("rule", 9); break;
            default: call("counter"); break;
        }
    }

    private void wordCall() {
        for (int i = pick(6); i > 0; i--) {
            call("letter", letter());
        }
        call("value", some(3));
        if (pick(3) == 0) {
            call("wipe");
        }
    }

    private void machineCall() {
        int m = some(3);
        switch (pick(6)) {
            case 0: call("start", m, state(m)); break;
            case 1: call("finish", m, state(m)); break;
            case 2: call("edge", m, state(m), letter(), state(m)); break;
            case 3: call("space", m, some(3)); break;
            case 4: call("share", m, some(7)); break;
            default: call("mean", m, some(7)); break;
        }
    }

    private void tellText() {
        StringBuilder text = new StringBuilder();
        int lines = pick(10);
        int states = 1 + pick(4);
        if (pick(8) != 0) {
            text.append("states ").append(states).append(';');
        }
        for (int i = 0; i < lines; i++) {
            text.append(line(i, states));
        }
        for (int i = pick(3) == 0 ? 1 + pick(2) : 0; i > 0 && text.length() > 0; i--) {
            spoil(text);
        }
        read(text.toString());
    }

    private void read(String text) {
        for (int i = 0; i < text.length(); i++) {
            call("feed", (int) text.charAt(i));
        }
        call("text");
        call("fault");
    }

    private String line(int i, int states) {
        String gap = " ".repeat(pick(2));
        if (i == 0 && pick(2) == 0) {
            return "prime" + gap + PRIMES[pick(PRIMES.length)] + ";";
        }
        if (i == 1 && pick(2) == 0) {
            return "letters" + gap + (1 + pick(3)) + ";";
        }
        if (pick(60) == 0) {
            return new String[] {"prime 3;", "letters 2;", "states " + states + ";"}[pick(3)];
        }
        String to = pick(states) + " " + pick(pick(3) == 0 ? 100 : 4) + gap + ";";
        switch (pick(4)) {
            case 0: return "start" + gap + to;
            case 1: return "end" + gap + to;
            default: return "edge" + gap + pick(states) + gap + (char) ('a' + pick(2)) + gap + to + gap;
        }
    }

    private void spoil(StringBuilder text) {
        String signs = " ;0123456789abcdeprimestlgn.A";
        int place = pick(text.length());
        char sign = signs.charAt(pick(signs.length()));
        switch (pick(4)) {
            case 0: text.setCharAt(place, sign); break;
            case 1: text.insert(place, sign); break;
            case 2: text.setLength(place); break;
            default: text.deleteCharAt(place); break;
        }
    }

    public static void main(String[] args) {
        int runs = args.length > 0 ? Integer.parseInt(args[0]) : 150;
        long first = args.length > 1 ? Long.parseLong(args[1]) : 1;
        int wrong = 0;
        for (long seed = first; seed < first + runs && wrong < 5; seed++) {
            RandomRunsTest test = new RandomRunsTest(seed);
            test.run();
            wrong += test.wrong ? 1 : 0;
        }
        System.out.println(runs + " runs, " + wrong + " wrong");
        if (wrong != 0) {
            System.exit(1);
        }
    }
}
