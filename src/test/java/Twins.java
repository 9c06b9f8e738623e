import java.util.ArrayList;
import java.util.List;
import java.util.function.Consumer;
import java.util.function.Supplier;

/**
 * What is refused changes nothing: of two objects made alike one is asked for what it must refuse,
 * and then both must answer alike to all by which anything of them can be seen.
 */
final class Twins {
    private static final int STATES = 4, LETTERS = 3;

    private Twins() {
    }

    /** Looks at one side of an object; most spoil it, so each has an object of its own. */
    interface Probe {
        void look(Run run, List<String> seen);
    }

    private static final Probe FAULT = (run, seen) -> seen.add(run.answer("fault()"));
    private static final Probe[] ALL_ELSE = {Twins::tellings, Twins::machines, Twins::table, Twins::word,
        Twins::tape, (run, seen) -> image(0, run, seen), (run, seen) -> image(1, run, seen), Twins::shelves};

    /** Each of the rows, made by itself of what the maker makes, is refused as due and changes nothing. */
    static void refuse(Supplier<Run> maker, String... rows) {
        for (String row : rows) {
            Consumer<Run> deed = run -> run.due(row);
            leaves(maker, deed, row, FAULT);
            leaves(maker, deed, row, ALL_ELSE);
        }
    }

    /** A text that is refused: its FAULT may be seen, THE TAPE is empty, all else is as it was. */
    static void refuseText(Supplier<Run> maker, String text, int fault, int place) {
        Consumer<Run> deed = run -> run.faulty(text, fault, place);
        leaves(maker, deed, "text() of " + text, ALL_ELSE);
    }

    private static void leaves(Supplier<Run> maker, Consumer<Run> deed, String told, Probe... probes) {
        for (Probe probe : probes) {
            Run asked = maker.get();
            deed.accept(asked);
            List<String> seen = new ArrayList<>();
            probe.look(asked, seen);
            List<String> due = new ArrayList<>();
            probe.look(maker.get(), due);
            if (!seen.equals(due)) {
                BoundaryTest.wrong(told + " is to change nothing, but behind it " + seen + ", without it " + due
                        + ": " + asked);
            }
        }
    }

    private static void ask(Run run, List<String> seen, String name, int... bounds) {
        int rows = 1;
        for (int bound : bounds) {
            rows *= bound;
        }
        for (int row = 0; row < rows; row++) {
            int rest = row;
            StringBuilder inside = new StringBuilder();
            for (int bound : bounds) {
                inside.append(inside.length() == 0 ? "" : ", ").append(rest % bound);
                rest /= bound;
            }
            seen.add(run.answer(name + "(" + inside + ")"));
        }
    }

    private static void tellings(Run run, List<String> seen) {
        ask(run, seen, "rule", 13);
        ask(run, seen, "counter");
        ask(run, seen, "basis", 5);
        ask(run, seen, "prefix", 5);
        ask(run, seen, "suffix", 30);
        ask(run, seen, "value", 3);
        ask(run, seen, "differ", 2);
        ask(run, seen, "kind", 3, 9);
    }

    private static void machines(Run run, List<String> seen) {
        ask(run, seen, "start", 3, STATES);
        ask(run, seen, "finish", 3, STATES);
        ask(run, seen, "edge", 3, STATES, LETTERS, STATES);
        ask(run, seen, "space", 3, 3);
        ask(run, seen, "share", 3, 4);
        ask(run, seen, "mean", 3, 4);
    }

    private static void table(Run run, List<String> seen) {
        ask(run, seen, "cell", STATES * (1 + LETTERS), 8);
        ask(run, seen, "part", STATES * (1 + LETTERS), STATES);
    }

    private static void word(Run run, List<String> seen) {
        seen.add(run.answer("value(0)"));
        for (int i = 0; i < 13; i++) {
            seen.add(run.answer("letter(0)"));
        }
        seen.add(run.answer("value(0)"));
        seen.add(run.answer("wipe()"));
    }

    private static void tape(Run run, List<String> seen) {
        seen.add(run.answer("text()"));
        seen.add(run.answer("fault()"));
        ask(run, seen, "rule", 13);
        machine(0, run, seen);
    }

    private static void machine(int m, Run run, List<String> seen) {
        for (int s = 0; s < STATES; s++) {
            seen.add(run.answer("start(" + m + ", " + s + ")"));
            seen.add(run.answer("finish(" + m + ", " + s + ")"));
            for (int i = 0; i < 2 * STATES; i++) {
                seen.add(run.answer("edge(" + m + ", " + s + ", " + i / STATES + ", " + i % STATES + ")"));
            }
        }
    }

    private static void image(int k, Run run, List<String> seen) {
        seen.add(run.answer("back(" + k + ")"));
        machine(0, run, seen);
        machine(1, run, seen);
        tellings(run, seen);
    }

    private static void shelves(Run run, List<String> seen) {
        for (int cell = 0; cell < 24; cell++) {
            String taken = run.answer("take(" + cell / 8 + ", 2, " + cell % 8 + ")");
            seen.add(taken);
            if (!taken.startsWith("-")) {
                machine(0, run, seen);
            }
        }
    }
}
