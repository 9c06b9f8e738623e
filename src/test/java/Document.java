import java.io.IOException;
import java.nio.file.Files;
import java.nio.file.Path;
import java.util.List;
import java.util.Map;
import java.util.TreeMap;

/** The document's own words: what the tests name must stand there, what stands there must be named. */
final class Document {
    private static final Path PLACE = Path.of("../shared/DOC.md");

    private Document() {
    }

    static void lookAt(List<Says> sentences) throws IOException {
        if (!Files.isReadable(PLACE)) {
            System.out.println("there is no " + PLACE + ": sentences are not looked up in it");
            return;
        }
        Map<Integer, StringBuilder> parts = parts(Files.readString(PLACE));
        Map<Integer, StringBuilder> left = new TreeMap<>();
        parts.forEach((part, words) -> left.put(part, new StringBuilder(words)));
        for (Says says : sentences) {
            int part = says.terms() ? 0 : says.promise();
            String sentence = says.value();
            int from = parts.containsKey(part) ? parts.get(part).indexOf(sentence) : -1;
            if (from < 0) {
                BoundaryTest.wrong("part " + part + " has no sentence '" + sentence + "'");
            }
            for (; from >= 0; from = parts.get(part).indexOf(sentence, from + 1)) {
                left.get(part).replace(from, from + sentence.length(), "_".repeat(sentence.length()));
            }
        }
        left.forEach((part, words) -> {
            if (words.toString().matches(".*[A-Za-z0-9].*")) {
                BoundaryTest.wrong("part " + part + " has words that no test names: " + words);
            }
        });
    }

    /** What the promises tell one by one, and what FaceTest looks at. */
    private static boolean isOverview(String line) {
        return line.startsWith("A learner of weighted machines: ") || line.startsWith("Ahead of the calls ");
    }

    /**
     * The words of each promise by its number, without its head; 0: those under 'Terms', and under 'What
     * it is' those that promise something.
     */
    private static Map<Integer, StringBuilder> parts(String all) {
        Map<Integer, StringBuilder> found = new TreeMap<>();
        int part = -1;
        for (String line : all.split("\n")) {
            if (line.startsWith("## ")) {
                part = line.startsWith("## Promise ") ? Integer.parseInt(line.replaceAll("\\D+", ""))
                        : line.equals("## Terms") || line.equals("## What it is") ? 0 : -1;
            } else if (part >= 0 && !line.startsWith("```") && !isOverview(line)) {
                String words = line.replaceFirst("^======== \\d ", "").replaceFirst("^`[^`]*`: ", "");
                found.computeIfAbsent(part, none -> new StringBuilder()).append(' ').append(words.trim());
            }
        }
        found.replaceAll((number, words) -> new StringBuilder(words.toString().replaceAll("\\s+", " ")));
        return found;
    }
}
