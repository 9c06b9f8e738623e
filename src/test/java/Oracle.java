import java.util.ArrayList;
import java.util.Arrays;
import java.util.HashSet;
import java.util.List;
import java.util.Map;
import java.util.Set;
import java.util.regex.Matcher;
import java.util.regex.Pattern;

/**
 * The document's words taken plainly, without regard to cost: words are texts, all words up to a
 * length are looked at one by one, rows have all their columns, and the shelves are arrays of Java
 * whose faults the Java machine finds. The program is held against it.
 */
public final class Oracle {
    static final int BAD = -1, STATE = -2, FULL = -3, NONE = -4;

    /** Two machines of 4 states differ by a word of 7 letters at most, if they differ. */
    private static final int TELLING = 7;

    static class Machine {
        int[] start;
        int[] end;
        int[][][] weight;

        Machine(int n) {
            start = new int[n];
            end = new int[n];
            weight = new int[n][3][n];
        }

        int size() {
            return start.length;
        }

        Machine copy() {
            Machine m = new Machine(size());
            for (int s = 0; s < size(); s++) {
                m.start[s] = start[s];
                m.end[s] = end[s];
                for (int x = 0; x < 3; x++) {
                    m.weight[s][x] = weight[s][x].clone();
                }
            }
            return m;
        }
    }

    static class Cell {
        final Machine machine;

        Cell(Machine machine) {
            this.machine = machine;
        }

        int kind() {
            throw new IllegalStateException();
        }
    }

    static final class Told extends Cell {
        Told(Machine machine) {
            super(machine);
        }

        @Override
        int kind() {
            return 0;
        }
    }

    static final class Made extends Cell {
        Made(Machine machine) {
            super(machine);
        }

        @Override
        int kind() {
            return 1;
        }
    }

    static final class Image {
        Machine teacher;
        Machine guess;
        List<String> prefixes;
        List<String> suffixes;
        int rounds;
    }

    /** The words of 1 to 3 letters, by their lengths, as far as they were asked for. */
    private static final List<List<List<String>>> WORDS = List.of(new ArrayList<>(List.of(List.of(""))),
            new ArrayList<>(List.of(List.of(""))), new ArrayList<>(List.of(List.of(""))));

    private int p = 7;
    private int l = 2;
    private Machine teacher = new Machine(0);
    private Machine guess;
    private List<String> prefixes = new ArrayList<>();
    private List<String> suffixes = new ArrayList<>(List.of(""));
    private int rounds;
    private String word = "";
    private final StringBuilder tape = new StringBuilder();
    private int fault;
    private final Image[] images = new Image[2];
    private final Cell[][] shelves = new Cell[3][];

    // words

    private int number(String w) {
        int shorter = 0;
        int of = 1;
        for (int i = 0; i < w.length(); i++) {
            shorter += of;
            of *= l;
        }
        int rank = 0;
        for (char c : w.toCharArray()) {
            rank = rank * l + (c - 'a');
        }
        return shorter + rank;
    }

    private List<String> wordsOf(int length) {
        List<List<String>> known = WORDS.get(l - 1);
        while (known.size() <= length) {
            List<String> longer = new ArrayList<>();
            for (String w : known.get(known.size() - 1)) {
                for (int x = 0; x < l; x++) {
                    longer.add(w + (char) ('a' + x));
                }
            }
            known.add(longer);
        }
        return known.get(length);
    }

    private List<String> wordsUpTo(int length) {
        List<String> all = new ArrayList<>();
        for (int i = 0; i <= length; i++) {
            all.addAll(wordsOf(i));
        }
        return all;
    }

    private int valueOf(Machine m, String w) {
        int[] going = m.end;
        for (int i = w.length() - 1; i >= 0; i--) {
            int[] ahead = new int[m.size()];
            for (int s = 0; s < m.size(); s++) {
                for (int t = 0; t < m.size(); t++) {
                    ahead[s] = (ahead[s] + m.weight[s][w.charAt(i) - 'a'][t] * going[t]) % p;
                }
            }
            going = ahead;
        }
        int sum = 0;
        for (int s = 0; s < m.size(); s++) {
            sum = (sum + m.start[s] * going[s]) % p;
        }
        return sum;
    }

    /** By the words of the document: each row of states by itself. For short words alone. */
    static int valueByRows(Machine m, String w, int p) {
        long sum = 0;
        int rows = (int) Math.pow(m.size(), w.length() + 1);
        for (int row = 0; row < rows; row++) {
            int rest = row;
            int s = rest % m.size();
            long product = m.start[s];
            for (char c : w.toCharArray()) {
                rest /= m.size();
                int t = rest % m.size();
                product = product * m.weight[s][c - 'a'][t] % p;
                s = t;
            }
            sum += product * m.end[s] % p;
        }
        return (int) (sum % p);
    }

    /** What comes to the states by a word (or, turned round, goes on from them). */
    private int[] comesTo(Machine m, String w) {
        int[] at = m.start;
        for (char c : w.toCharArray()) {
            int[] next = new int[m.size()];
            for (int s = 0; s < m.size(); s++) {
                for (int t = 0; t < m.size(); t++) {
                    next[t] = (next[t] + at[s] * m.weight[s][c - 'a'][t]) % p;
                }
            }
            at = next;
        }
        return at;
    }

    // combinations

    /** The residues by which the rows make the target, or null. */
    private int[] solve(List<int[]> rows, int[] target) {
        int unknowns = rows.size();
        int equations = target.length;
        int[][] a = new int[equations][unknowns + 1];
        for (int e = 0; e < equations; e++) {
            for (int u = 0; u < unknowns; u++) {
                a[e][u] = rows.get(u)[e];
            }
            a[e][unknowns] = target[e];
        }
        int[] where = new int[unknowns];
        int done = 0;
        for (int u = 0; u < unknowns; u++) {
            int pivot = done;
            while (pivot < equations && a[pivot][u] == 0) {
                pivot++;
            }
            if (pivot == equations) {
                where[u] = -1;
                continue;
            }
            int[] swap = a[pivot];
            a[pivot] = a[done];
            a[done] = swap;
            eliminate(a, done, u);
            where[u] = done++;
        }
        for (int e = done; e < equations; e++) {
            if (a[e][unknowns] != 0) {
                return null;
            }
        }
        int[] found = new int[unknowns];
        for (int u = 0; u < unknowns; u++) {
            found[u] = where[u] < 0 ? 0 : a[where[u]][unknowns];
        }
        return found;
    }

    private void eliminate(int[][] a, int row, int column) {
        int inverse = 1;
        while (inverse * a[row][column] % p != 1) {
            inverse++;
        }
        for (int c = 0; c < a[row].length; c++) {
            a[row][c] = a[row][c] * inverse % p;
        }
        for (int e = 0; e < a.length; e++) {
            int factor = a[e][column];
            if (e != row && factor != 0) {
                for (int c = 0; c < a[e].length; c++) {
                    a[e][c] = Math.floorMod(a[e][c] - factor * a[row][c], p);
                }
            }
        }
    }

    private int dimension(List<int[]> rows) {
        List<int[]> own = new ArrayList<>();
        for (int[] row : rows) {
            if (solve(own, row) == null) {
                own.add(row);
            }
        }
        return own.size();
    }

    private int[] row(Machine m, String w, List<String> endings) {
        int[] row = new int[endings.size()];
        for (int i = 0; i < row.length; i++) {
            row[i] = valueOf(m, w + endings.get(i));
        }
        return row;
    }

    private List<int[]> rowsOf(Machine m, List<String> words, List<String> endings) {
        List<int[]> rows = new ArrayList<>();
        for (String w : words) {
            rows.add(row(m, w, endings));
        }
        return rows;
    }

    private String firstCandidate() {
        List<String> candidates = new ArrayList<>();
        if (prefixes.isEmpty()) {
            candidates.add("");
        }
        for (String w : prefixes) {
            for (int x = 0; x < l; x++) {
                candidates.add(w + (char) ('a' + x));
            }
        }
        List<int[]> rows = rowsOf(teacher, prefixes, suffixes);
        for (String w : candidates) {
            if (solve(rows, row(teacher, w, suffixes)) == null) {
                return w;
            }
        }
        return null;
    }

    private Machine machineOf(Machine m, List<String> words, List<String> endings) {
        Machine made = new Machine(words.size());
        List<int[]> rows = rowsOf(m, words, endings);
        for (int s = 0; s < words.size(); s++) {
            made.start[s] = s == 0 ? 1 : 0;
            made.end[s] = valueOf(m, words.get(s));
            for (int x = 0; x < l; x++) {
                made.weight[s][x] = solve(rows, row(m, words.get(s) + (char) ('a' + x), endings));
            }
        }
        return made;
    }

    /** Words of 3 letters are enough to tell the words of 4 states from one another. */
    private List<String> basisOf(Machine m) {
        List<String> endings = wordsUpTo(3);
        List<String> basis = new ArrayList<>();
        List<int[]> rows = new ArrayList<>();
        for (String w : wordsUpTo(3)) {
            int[] row = row(m, w, endings);
            if (solve(rows, row) == null) {
                basis.add(w);
                rows.add(row);
            }
        }
        return basis;
    }

    private Machine least() {
        return machineOf(teacher, basisOf(teacher), wordsUpTo(3));
    }

    private int firstDifference(Machine a, Machine b) {
        for (int length = 0; length <= TELLING; length++) {
            for (String w : wordsOf(length)) {
                if (valueOf(a, w) != valueOf(b, w)) {
                    return number(w);
                }
            }
        }
        return NONE;
    }

    private String wordOf(int number) {
        for (int length = 0; length <= 12; length++) {
            int first = number("a".repeat(length));
            int many = (int) Math.pow(l, length);
            if (number < first + many) {
                return wordsOf(length).get(number - first);
            }
        }
        throw new IllegalStateException();
    }

    private List<String> newEndings(String w) {
        List<String> found = new ArrayList<>();
        for (int i = w.length(); i >= 0; i--) {
            if (!suffixes.contains(w.substring(i))) {
                found.add(w.substring(i));
            }
        }
        return found;
    }

    private void anew() {
        prefixes = new ArrayList<>();
        suffixes = new ArrayList<>(List.of(""));
        rounds = 0;
        guess = null;
    }

    // the text

    public int feed(int c) {
        if (c < 0 || c > 127) {
            return BAD;
        }
        if (tape.length() == 200) {
            return FULL;
        }
        tape.append((char) c);
        return tape.length();
    }

    public int end(int n) {
        int had = tape.length();
        if (n < 0 || n > had) {
            return BAD;
        }
        tape.setLength(n);
        return had;
    }

    private static final Pattern TOKEN = Pattern.compile("\\G *(?:([a-z]+)|([0-9]+)|(;)|(\\z))");
    private static final Map<String, String> SHAPES = Map.of("prime", "p;", "letters", "l;",
            "states", "n;", "start", "sv;", "end", "sv;", "edge", "sxsv;");

    private static final class Fault extends Exception {
        private static final long serialVersionUID = 1;
        final int kind;
        final int place;

        Fault(int kind, int place) {
            this.kind = kind;
            this.place = place;
        }
    }

    private static boolean fits(char shape, int n) {
        switch (shape) {
            case 'p': return n <= 97 && java.math.BigInteger.valueOf(n).isProbablePrime(50);
            case 'l': return n >= 1 && n <= 3;
            case 'n': return n <= 4;
            case 's': return n <= 3;
            default: return true;
        }
    }

    private int checkToken(Matcher token, char shape) throws Fault {
        String name = token.group(1);
        String figures = token.group(2);
        if (shape == ';' && token.group(3) == null
                || shape == 'x' && (name == null || !name.matches("[abc]"))
                || "plnsv".indexOf(shape) >= 0 && figures == null) {
            throw new Fault(2, startOf(token));
        }
        if (shape == ';') {
            return 0;
        }
        if (shape == 'x') {
            return name.charAt(0) - 'a';
        }
        int n = Integer.parseInt(figures);
        if (!fits(shape, n)) {
            throw new Fault(3, startOf(token));
        }
        return n;
    }

    private static int startOf(Matcher token) {
        for (int g = 1; g <= 4; g++) {
            if (token.group(g) != null) {
                return token.start(g);
            }
        }
        throw new IllegalStateException();
    }

    private void nextToken(Matcher token, String all) throws Fault {
        if (!token.find()) {
            int place = lastEnd;
            while (all.charAt(place) == ' ') {
                place++;
            }
            throw new Fault(1, place);
        }
        lastEnd = token.end();
        if (token.group(2) != null && token.group(2).length() > 2) {
            throw new Fault(1, token.start(2));
        }
    }

    private int lastEnd;

    private List<List<Integer>> linesOf(String all, List<String> names) throws Fault {
        List<List<Integer>> lines = new ArrayList<>();
        Matcher token = TOKEN.matcher(all);
        lastEnd = 0;
        while (true) {
            nextToken(token, all);
            if (token.group(4) != null) {
                return lines;
            }
            String name = token.group(1);
            if (name == null || !SHAPES.containsKey(name)) {
                throw new Fault(2, startOf(token));
            }
            if (names.contains(name) && SHAPES.get(name).length() == 2) {
                throw new Fault(4, startOf(token));
            }
            names.add(name);
            List<Integer> line = new ArrayList<>();
            for (char shape : SHAPES.get(name).toCharArray()) {
                nextToken(token, all);
                line.add(checkToken(token, shape));
            }
            lines.add(line);
        }
    }

    public int text() {
        String all = tape.toString();
        tape.setLength(0);
        List<String> names = new ArrayList<>();
        List<List<Integer>> lines;
        try {
            lines = linesOf(all, names);
            takeText(names, lines, all.length());
        } catch (Fault found) {
            fault = found.kind;
            return -10 - found.place;
        }
        fault = 0;
        anew();
        word = "";
        Arrays.fill(images, null);
        Arrays.fill(shelves, null);
        return lines.size();
    }

    private void takeText(List<String> names, List<List<Integer>> lines, int length) throws Fault {
        int newP = names.contains("prime") ? lines.get(names.indexOf("prime")).get(0) : 7;
        int newL = names.contains("letters") ? lines.get(names.indexOf("letters")).get(0) : 2;
        int states = names.contains("states") ? lines.get(names.indexOf("states")).get(0) : 0;
        Machine told = new Machine(states);
        for (int i = 0; i < lines.size(); i++) {
            List<Integer> line = lines.get(i);
            if (SHAPES.get(names.get(i)).length() == 2) {
                continue;
            }
            boolean edge = names.get(i).equals("edge");
            if (line.get(0) >= states || edge && (line.get(1) >= newL || line.get(2) >= states)) {
                throw new Fault(5, length);
            }
            if (edge) {
                told.weight[line.get(0)][line.get(1)][line.get(2)] = line.get(3) % newP;
            } else {
                (names.get(i).equals("start") ? told.start : told.end)[line.get(0)] = line.get(1) % newP;
            }
        }
        p = newP;
        l = newL;
        teacher = told;
    }

    public int fault() {
        return fault;
    }

    public int rule(int what) {
        switch (what) {
            case 0: return p;
            case 1: return l;
            case 2: return teacher.size();
            case 3: return guess == null ? NONE : guess.size();
            case 4: return basisOf(teacher).size();
            case 5: return prefixes.size();
            case 6: return suffixes.size();
            case 7: return rounds;
            case 8: return firstCandidate() == null ? 1 : 0;
            case 9: return unlike();
            case 10: return tape.length();
            case 11: return (images[0] == null ? 0 : 1) + (images[1] == null ? 0 : 1);
            case 12: return (int) Arrays.stream(shelves).filter(row -> row != null).count();
            default: return BAD;
        }
    }

    private List<String> rowWords() {
        List<String> words = new ArrayList<>(prefixes);
        for (String w : prefixes) {
            for (int x = 0; x < l; x++) {
                words.add(w + (char) ('a' + x));
            }
        }
        return words;
    }

    private int unlike() {
        Set<String> words = new HashSet<>();
        for (String w : rowWords()) {
            for (String ending : suffixes) {
                words.add(w + ending);
            }
        }
        return words.size();
    }

    // machines, words

    private Machine pick(int m) {
        return m == 0 ? teacher : m == 1 ? guess : least();
    }

    private static boolean off(int i, int bound) {
        return i < 0 || i >= bound;
    }

    public int start(int m, int s) {
        if (off(m, 3)) {
            return BAD;
        }
        Machine machine = pick(m);
        return machine == null ? STATE : off(s, machine.size()) ? BAD : machine.start[s];
    }

    public int finish(int m, int s) {
        if (off(m, 3)) {
            return BAD;
        }
        Machine machine = pick(m);
        return machine == null ? STATE : off(s, machine.size()) ? BAD : machine.end[s];
    }

    public int edge(int m, int s, int x, int t) {
        if (off(m, 3)) {
            return BAD;
        }
        Machine machine = pick(m);
        if (machine == null) {
            return STATE;
        }
        return off(s, machine.size()) || off(x, l) || off(t, machine.size()) ? BAD : machine.weight[s][x][t];
    }

    public int letter(int x) {
        if (off(x, l)) {
            return BAD;
        }
        if (word.length() == 12) {
            return FULL;
        }
        word += (char) ('a' + x);
        return word.length();
    }

    public int wipe() {
        int had = word.length();
        word = "";
        return had;
    }

    public int value(int m) {
        if (off(m, 3)) {
            return BAD;
        }
        Machine machine = pick(m);
        if (machine == null) {
            return STATE;
        }
        int found = valueOf(machine, word);
        if (word.length() <= 3 && machine.size() > 0 && valueByRows(machine, word, p) != found) {
            throw new IllegalStateException("the oracle is at odds with itself");
        }
        return found;
    }

    public int space(int m, int what) {
        if (off(m, 3) || off(what, 3)) {
            return BAD;
        }
        Machine machine = pick(m);
        if (machine == null) {
            return STATE;
        }
        if (what == 2) {
            return basisOf(machine).size();
        }
        Machine looked = what == 0 ? machine : turned(machine);
        List<int[]> rows = new ArrayList<>();
        for (String w : wordsUpTo(4)) {
            rows.add(comesTo(looked, w));
        }
        return dimension(rows);
    }

    public int share(int m, int n) {
        if (off(m, 3) || off(n, 7)) {
            return BAD;
        }
        Machine machine = pick(m);
        if (machine == null) {
            return STATE;
        }
        int zeros = 0;
        for (String w : wordsOf(n)) {
            zeros += valueOf(machine, w) == 0 ? 1 : 0;
        }
        return Float.floatToRawIntBits((float) zeros / (float) wordsOf(n).size());
    }

    public long mean(int m, int n) {
        if (off(m, 3) || off(n, 7)) {
            return BAD;
        }
        Machine machine = pick(m);
        if (machine == null) {
            return STATE;
        }
        long sum = 0;
        for (String w : wordsOf(n)) {
            sum += valueOf(machine, w);
        }
        return Double.doubleToRawLongBits((double) sum / wordsOf(n).size());
    }

    // the table

    public int prefix(int i) {
        return i < 0 ? BAD : i >= prefixes.size() ? NONE : number(prefixes.get(i));
    }

    public int suffix(int i) {
        return i < 0 ? BAD : i >= suffixes.size() ? NONE : number(suffixes.get(i));
    }

    public int cell(int r, int c) {
        if (off(r, rowWords().size()) || off(c, suffixes.size())) {
            return BAD;
        }
        return valueOf(teacher, rowWords().get(r) + suffixes.get(c));
    }

    public int part(int r, int j) {
        if (off(r, rowWords().size()) || off(j, prefixes.size())) {
            return BAD;
        }
        int[] found = solve(rowsOf(teacher, prefixes, suffixes), row(teacher, rowWords().get(r), suffixes));
        return found == null ? NONE : found[j];
    }

    public int close() {
        int had = prefixes.size();
        for (String w = firstCandidate(); w != null; w = firstCandidate()) {
            prefixes.add(w);
        }
        return prefixes.size() - had;
    }

    public int learn() {
        rounds++;
        close();
        guess = machineOf(teacher, prefixes, suffixes);
        int found = firstDifference(teacher, guess);
        if (found != NONE) {
            suffixes.addAll(newEndings(wordOf(found)));
        }
        return found;
    }

    public int counter() {
        return guess == null ? STATE : firstDifference(teacher, guess);
    }

    public int ask(int n) {
        if (n < 0 || n > number("" + ("" + (char) ('a' + l - 1)).repeat(5))) {
            return BAD;
        }
        List<String> coming = newEndings(wordOf(n));
        if (suffixes.size() + coming.size() > 24) {
            return FULL;
        }
        suffixes.addAll(coming);
        return suffixes.size();
    }

    public int basis(int i) {
        if (i < 0) {
            return BAD;
        }
        List<String> words = basisOf(teacher);
        return i >= words.size() ? NONE : number(words.get(i));
    }

    // changes

    public int begins(int s, int v) {
        if (off(s, teacher.size()) || off(v, p)) {
            return BAD;
        }
        int was = teacher.start[s];
        teacher.start[s] = v;
        anew();
        return was;
    }

    public int ends(int s, int v) {
        if (off(s, teacher.size()) || off(v, p)) {
            return BAD;
        }
        int was = teacher.end[s];
        teacher.end[s] = v;
        anew();
        return was;
    }

    public int leads(int s, int x, int t, int v) {
        if (off(s, teacher.size()) || off(x, l) || off(t, teacher.size()) || off(v, p)) {
            return BAD;
        }
        int was = teacher.weight[s][x][t];
        teacher.weight[s][x][t] = v;
        anew();
        return was;
    }

    /** The states of a machine that are named, in this order; -1 names one that is all 0. */
    private static Machine chosen(Machine m, int... names) {
        Machine made = new Machine(names.length);
        for (int s = 0; s < names.length; s++) {
            if (names[s] < 0) {
                continue;
            }
            made.start[s] = m.start[names[s]];
            made.end[s] = m.end[names[s]];
            for (int x = 0; x < 3; x++) {
                for (int t = 0; t < names.length; t++) {
                    made.weight[s][x][t] = names[t] < 0 ? 0 : m.weight[names[s]][x][names[t]];
                }
            }
        }
        return made;
    }

    public int grow() {
        if (teacher.size() == 4) {
            return FULL;
        }
        int[] names = new int[teacher.size() + 1];
        for (int s = 0; s < teacher.size(); s++) {
            names[s] = s;
        }
        names[teacher.size()] = -1;
        teacher = chosen(teacher, names);
        anew();
        return teacher.size();
    }

    public int drop(int s) {
        if (off(s, teacher.size())) {
            return BAD;
        }
        int[] names = new int[teacher.size() - 1];
        for (int t = 0; t < names.length; t++) {
            names[t] = t < s ? t : t + 1;
        }
        teacher = chosen(teacher, names);
        anew();
        return teacher.size();
    }

    private static Machine turned(Machine m) {
        Machine made = new Machine(m.size());
        for (int s = 0; s < m.size(); s++) {
            made.start[s] = m.end[s];
            made.end[s] = m.start[s];
            for (int x = 0; x < 3; x++) {
                for (int t = 0; t < m.size(); t++) {
                    made.weight[s][x][t] = m.weight[t][x][s];
                }
            }
        }
        return made;
    }

    public int turn() {
        teacher = turned(teacher);
        anew();
        return teacher.size();
    }

    public int scale(int v) {
        if (off(v, p)) {
            return BAD;
        }
        for (int s = 0; s < teacher.size(); s++) {
            teacher.start[s] = teacher.start[s] * v % p;
        }
        anew();
        return teacher.size();
    }

    public int shrink() {
        teacher = least();
        anew();
        return teacher.size();
    }

    public int join(int k) {
        if (off(k, 2)) {
            return BAD;
        }
        if (images[k] == null) {
            return STATE;
        }
        Machine other = images[k].teacher;
        int first = teacher.size();
        if (first + other.size() > 4) {
            return FULL;
        }
        Machine both = new Machine(first + other.size());
        for (int s = 0; s < both.size(); s++) {
            Machine from = s < first ? teacher : other;
            int less = s < first ? 0 : first;
            both.start[s] = from.start[s - less];
            both.end[s] = from.end[s - less];
            for (int x = 0; x < 3; x++) {
                for (int t = 0; t < both.size(); t++) {
                    both.weight[s][x][t] = t < first == s < first ? from.weight[s - less][x][t - less] : 0;
                }
            }
        }
        teacher = both;
        anew();
        return teacher.size();
    }

    private int seed;

    private int drawn() {
        seed = (int) ((long) seed * 1103515245L + 12345L);
        int got = 0;
        for (int bit = 30; bit >= 16; bit--) {
            got = 2 * got + (seed >> bit & 1);
        }
        return Math.floorDiv(got, 128) % 2 == 0 ? 0 : got % p;
    }

    public int draw(int newSeed, int n) {
        if (off(n, 5)) {
            return BAD;
        }
        seed = newSeed;
        teacher = new Machine(n);
        for (int s = 0; s < n; s++) {
            teacher.start[s] = drawn();
            teacher.end[s] = drawn();
            for (int x = 0; x < l; x++) {
                for (int t = 0; t < n; t++) {
                    teacher.weight[s][x][t] = drawn();
                }
            }
        }
        anew();
        return 1;
    }

    // images, shelves

    public int keep(int k) {
        if (off(k, 2)) {
            return BAD;
        }
        int had = images[k] == null ? 0 : 1;
        images[k] = new Image();
        images[k].teacher = teacher.copy();
        images[k].guess = guess;
        images[k].prefixes = new ArrayList<>(prefixes);
        images[k].suffixes = new ArrayList<>(suffixes);
        images[k].rounds = rounds;
        return had;
    }

    public int back(int k) {
        if (off(k, 2)) {
            return BAD;
        }
        if (images[k] == null) {
            return STATE;
        }
        teacher = images[k].teacher.copy();
        guess = images[k].guess;
        prefixes = new ArrayList<>(images[k].prefixes);
        suffixes = new ArrayList<>(images[k].suffixes);
        rounds = images[k].rounds;
        return teacher.size();
    }

    public int differ(int k) {
        if (off(k, 2)) {
            return BAD;
        }
        return images[k] == null ? STATE : firstDifference(teacher, images[k].teacher);
    }

    public int shelf(int k, int lane, int n) {
        if (off(k, 3) || off(lane, 3) || n > 8) {
            return BAD;
        }
        try {
            shelves[k] = lane == 0 ? new Told[n] : lane == 1 ? new Made[n] : new Cell[n];
            return 1;
        } catch (NegativeArraySizeException found) {
            return -16;
        }
    }

    public int lay(int k, int i, int m) {
        if (off(k, 3) || off(m, 3)) {
            return BAD;
        }
        Machine machine = pick(m);
        if (machine == null) {
            return STATE;
        }
        try {
            shelves[k][i] = m == 0 ? new Told(machine.copy()) : new Made(machine.copy());
            return 1;
        } catch (NullPointerException found) {
            return -11;
        } catch (ArrayIndexOutOfBoundsException found) {
            return -13;
        } catch (ArrayStoreException found) {
            return -14;
        }
    }

    public int take(int k, int lane, int i) {
        if (off(k, 3) || off(lane, 3)) {
            return BAD;
        }
        Cell cell;
        try {
            cell = lane == 0 ? ((Told[]) shelves[k])[i] : lane == 1 ? ((Made[]) shelves[k])[i] : shelves[k][i];
        } catch (NullPointerException found) {
            return -11;
        } catch (ClassCastException found) {
            return -12;
        } catch (ArrayIndexOutOfBoundsException found) {
            return -13;
        }
        if (cell == null) {
            return -15;
        }
        teacher = cell.machine.copy();
        anew();
        return teacher.size();
    }

    public int kind(int k, int i) {
        if (off(k, 3)) {
            return BAD;
        }
        Cell cell;
        try {
            cell = shelves[k][i];
        } catch (NullPointerException found) {
            return -11;
        } catch (ArrayIndexOutOfBoundsException found) {
            return -13;
        }
        return cell == null ? -15 : cell.kind();
    }
}
