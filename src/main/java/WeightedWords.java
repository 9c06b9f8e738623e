import java.util.Arrays;

/**
 * A learner of weighted machines, whose words have values modulo a prime.
 *
 * <p>A WORD is held as its NUMBER throughout: NUMBERS are numerals of base L with the figures 1 to
 * L, so that a letter, a word, an ending are put on and taken off by arithmetic alone.
 */
public final class WeightedWords {
    public static final int BAD = -1, STATE = -2, FULL = -3, NONE = -4;

    private static final int MOST_STATES = 4;
    private static final int MOST_LETTERS = 3;
    private static final int LONGEST_WORD = 12;
    private static final int LONGEST_ASKED = 5;
    private static final int LONGEST_COUNTED = 6;
    private static final int MOST_ASKED_SUFFIXES = 24;

    private static final int TEACHER = 0, GUESS = 1, LEAST = 2;
    private static final int IMAGES = 2, SHELVES = 3, CELLS = 8, ANY = 2;

    /** What a FAULT's number is taken from, as the place of a text's FAULT is. */
    private static final int FAULTY = -10;

    private static final int NULL = 1, CAST = 2, INDEX = 3, STORE = 4, EMPTY = 5, SIZE = 6;

    private final Realm realm = new Realm();
    private final Reader reader = new Reader(realm);
    private final Study now = new Study(realm);
    private final Study[] images = new Study[IMAGES];
    private final boolean[] kept = new boolean[IMAGES];
    private final Shelf[] shelves = new Shelf[SHELVES];
    private final Basis basis = new Basis(realm);
    private final Census census = new Census(realm);
    private final Machine difference = new Machine(realm, Span.WIDEST);
    private final Machine least = new Machine(realm, MOST_STATES);
    private final int[] leastWords = new int[MOST_STATES];
    private boolean leastKnown;
    private int word;
    private int wordLength;
    private int latestFault;

    public WeightedWords() {
        for (int k = 0; k < IMAGES; k++) {
            images[k] = new Study(realm);
        }
        for (int k = 0; k < SHELVES; k++) {
            shelves[k] = new Shelf(realm);
        }
    }

    // ---- the text

    public int feed(int c) {
        if (c < 0 || c > 127) {
            return BAD;
        }
        return reader.put(c) ? reader.length : FULL;
    }

    public int end(int n) {
        int had = reader.length;
        if (n < 0 || n > had) {
            return BAD;
        }
        reader.length = n;
        return had;
    }

    public int text() {
        int lines = reader.readAll();
        reader.length = 0;
        latestFault = reader.refusal;
        if (latestFault != 0) {
            return FAULTY - reader.refusedAt;
        }
        realm.become(reader.prime, reader.letters);
        reader.hand(now.teacher);
        changed();
        word = 0;
        wordLength = 0;
        for (int k = 0; k < IMAGES; k++) {
            kept[k] = false;
        }
        for (int k = 0; k < SHELVES; k++) {
            shelves[k].vanish();
        }
        return lines;
    }

    public int fault() {
        return latestFault;
    }

    public int rule(int what) {
        switch (what) {
            case 0: return realm.prime;
            case 1: return realm.letters;
            case 2: return now.teacher.states;
            case 3: return now.guessed ? now.guess.states : NONE;
            case 4: return leastMachine().states;
            case 5: return now.prefixCount;
            case 6: return now.suffixCount;
            case 7: return now.rounds;
            case 8: return isClosed() ? 1 : 0;
            case 9: return now.unlikeWords(realm.letters);
            case 10: return reader.length;
            case 11: return keptImages();
            case 12: return standingShelves();
            default: return BAD;
        }
    }

    // ---- machines, words

    public int start(int m, int s) {
        if (!isMachine(m)) {
            return BAD;
        }
        Machine machine = machineOf(m);
        if (machine == null) {
            return STATE;
        }
        return machine.has(s) ? machine.starts[s] : BAD;
    }

    public int finish(int m, int s) {
        if (!isMachine(m)) {
            return BAD;
        }
        Machine machine = machineOf(m);
        if (machine == null) {
            return STATE;
        }
        return machine.has(s) ? machine.ends[s] : BAD;
    }

    public int edge(int m, int s, int x, int t) {
        if (!isMachine(m)) {
            return BAD;
        }
        Machine machine = machineOf(m);
        if (machine == null) {
            return STATE;
        }
        if (!machine.has(s) || !realm.hasLetter(x) || !machine.has(t)) {
            return BAD;
        }
        return machine.weights[machine.at(s, x, t)];
    }

    public int letter(int x) {
        if (!realm.hasLetter(x)) {
            return BAD;
        }
        if (wordLength >= LONGEST_WORD) {
            return FULL;
        }
        word = realm.withLetter(word, x);
        wordLength++;
        return wordLength;
    }

    public int wipe() {
        int had = wordLength;
        word = 0;
        wordLength = 0;
        return had;
    }

    public int value(int m) {
        if (!isMachine(m)) {
            return BAD;
        }
        Machine machine = machineOf(m);
        return machine == null ? STATE : basis.valueOf(machine, word);
    }

    public int space(int m, int what) {
        if (!isMachine(m) || what < 0 || what > 2) {
            return BAD;
        }
        Machine machine = machineOf(m);
        if (machine == null) {
            return STATE;
        }
        if (what == 0) {
            basis.seeStates(machine);
            basis.widen();
            return basis.size;
        }
        basis.seeAllEndings(machine);
        if (what == 1) {
            return basis.columns.size;
        }
        basis.widen();
        return basis.size;
    }

    public int share(int m, int n) {
        if (!isMachine(m) || n < 0 || n > LONGEST_COUNTED) {
            return BAD;
        }
        Machine machine = machineOf(m);
        if (machine == null) {
            return STATE;
        }
        census.count(machine, n);
        return census.shareBits();
    }

    public long mean(int m, int n) {
        if (!isMachine(m) || n < 0 || n > LONGEST_COUNTED) {
            return BAD;
        }
        Machine machine = machineOf(m);
        if (machine == null) {
            return STATE;
        }
        census.count(machine, n);
        return census.meanBits();
    }

    // ---- the table

    public int prefix(int i) {
        if (i < 0) {
            return BAD;
        }
        return i < now.prefixCount ? now.prefixes[i] : NONE;
    }

    public int suffix(int i) {
        if (i < 0) {
            return BAD;
        }
        return i < now.suffixCount ? now.suffixes[i] : NONE;
    }

    public int cell(int r, int c) {
        if (!isRow(r) || c < 0 || c >= now.suffixCount) {
            return BAD;
        }
        return basis.valueOf(now.teacher, realm.withWord(wordOfRow(r), now.suffixes[c]));
    }

    public int part(int r, int j) {
        if (!isRow(r) || j < 0 || j >= now.prefixCount) {
            return BAD;
        }
        layTable();
        return basis.combines(wordOfRow(r)) ? basis.rows.parts[j] : NONE;
    }

    public int close() {
        layTable();
        int came = basis.widen();
        now.takePrefixes(basis);
        return came;
    }

    public int learn() {
        now.rounds++;
        layTable();
        basis.widen();
        now.takePrefixes(basis);
        basis.build(now.guess);
        now.guessed = true;
        int found = firstDifference(now.guess);
        if (found != NONE) {
            now.addEndings(found);
        }
        return found;
    }

    public int counter() {
        return now.guessed ? firstDifference(now.guess) : STATE;
    }

    public int ask(int n) {
        if (n < 0 || n >= realm.firstOfLength(LONGEST_ASKED + 1)) {
            return BAD;
        }
        if (now.suffixCount + now.newEndings(n) > MOST_ASKED_SUFFIXES) {
            return FULL;
        }
        now.addEndings(n);
        return now.suffixCount;
    }

    public int basis(int i) {
        if (i < 0) {
            return BAD;
        }
        return i < leastMachine().states ? leastWords[i] : NONE;
    }

    // ---- changes of THE TEACHER

    public int begins(int s, int v) {
        if (!now.teacher.has(s) || !realm.hasResidue(v)) {
            return BAD;
        }
        int was = now.teacher.starts[s];
        now.teacher.starts[s] = v;
        changed();
        return was;
    }

    public int ends(int s, int v) {
        if (!now.teacher.has(s) || !realm.hasResidue(v)) {
            return BAD;
        }
        int was = now.teacher.ends[s];
        now.teacher.ends[s] = v;
        changed();
        return was;
    }

    public int leads(int s, int x, int t, int v) {
        Machine teacher = now.teacher;
        if (!teacher.has(s) || !realm.hasLetter(x) || !teacher.has(t) || !realm.hasResidue(v)) {
            return BAD;
        }
        int place = teacher.at(s, x, t);
        int was = teacher.weights[place];
        teacher.weights[place] = v;
        changed();
        return was;
    }

    public int grow() {
        if (now.teacher.states >= MOST_STATES) {
            return FULL;
        }
        now.teacher.states++;
        changed();
        return now.teacher.states;
    }

    public int drop(int s) {
        if (!now.teacher.has(s)) {
            return BAD;
        }
        now.teacher.omit(s);
        changed();
        return now.teacher.states;
    }

    public int turn() {
        now.teacher.reverse();
        changed();
        return now.teacher.states;
    }

    public int scale(int v) {
        if (!realm.hasResidue(v)) {
            return BAD;
        }
        now.teacher.multiplyStarts(v);
        changed();
        return now.teacher.states;
    }

    public int shrink() {
        now.teacher.copy(leastMachine());
        changed();
        return now.teacher.states;
    }

    public int join(int k) {
        if (!isImage(k)) {
            return BAD;
        }
        if (!kept[k]) {
            return STATE;
        }
        Machine other = images[k].teacher;
        if (now.teacher.states + other.states > MOST_STATES) {
            return FULL;
        }
        now.teacher.append(other, 1);
        changed();
        return now.teacher.states;
    }

    public int draw(int seed, int n) {
        if (n < 0 || n > MOST_STATES) {
            return BAD;
        }
        Dice dice = new Dice(seed, realm.prime);
        Machine teacher = now.teacher;
        teacher.become(n);
        for (int s = 0; s < n; s++) {
            teacher.starts[s] = dice.nextResidue();
            teacher.ends[s] = dice.nextResidue();
            for (int x = 0; x < realm.letters; x++) {
                for (int t = 0; t < n; t++) {
                    teacher.weights[teacher.at(s, x, t)] = dice.nextResidue();
                }
            }
        }
        changed();
        return 1;
    }

    // ---- images, shelves

    public int keep(int k) {
        if (!isImage(k)) {
            return BAD;
        }
        int had = kept[k] ? 1 : 0;
        images[k].copy(now);
        kept[k] = true;
        return had;
    }

    public int back(int k) {
        if (!isImage(k)) {
            return BAD;
        }
        if (!kept[k]) {
            return STATE;
        }
        now.copy(images[k]);
        leastKnown = false;
        return now.teacher.states;
    }

    public int differ(int k) {
        if (!isImage(k)) {
            return BAD;
        }
        return kept[k] ? firstDifference(images[k].teacher) : STATE;
    }

    public int shelf(int k, int lane, int n) {
        if (!isShelf(k) || !isLane(lane) || n > CELLS) {
            return BAD;
        }
        if (n < 0) {
            return FAULTY - SIZE;
        }
        shelves[k].stand(lane, n);
        return 1;
    }

    public int lay(int k, int i, int m) {
        if (!isShelf(k) || !isMachine(m)) {
            return BAD;
        }
        Machine machine = machineOf(m);
        if (machine == null) {
            return STATE;
        }
        int kindOfCopy = m == TEACHER ? Shelf.TOLD : Shelf.MADE;
        int found = shelves[k].faultOfLaying(i, kindOfCopy);
        if (found != 0) {
            return FAULTY - found;
        }
        shelves[k].put(i, machine, kindOfCopy);
        return 1;
    }

    public int take(int k, int lane, int i) {
        if (!isShelf(k) || !isLane(lane)) {
            return BAD;
        }
        int found = shelves[k].faultOfTaking(lane, i);
        if (found != 0) {
            return FAULTY - found;
        }
        now.teacher.copy(shelves[k].cells[i]);
        changed();
        return now.teacher.states;
    }

    public int kind(int k, int i) {
        if (!isShelf(k)) {
            return BAD;
        }
        // whatever its lane, a SHELF may be taken as of ANY: so no CAST comes of this look
        int found = shelves[k].faultOfTaking(ANY, i);
        return found != 0 ? FAULTY - found : shelves[k].kinds[i];
    }

    // ---- what the calls share

    private static boolean isMachine(int m) {
        return m >= TEACHER && m <= LEAST;
    }

    private static boolean isImage(int k) {
        return k >= 0 && k < IMAGES;
    }

    private static boolean isShelf(int k) {
        return k >= 0 && k < SHELVES;
    }

    private static boolean isLane(int lane) {
        return lane >= 0 && lane <= ANY;
    }

    private boolean isRow(int r) {
        return r >= 0 && r < now.prefixCount * (1 + realm.letters);
    }

    /** The word of a row that there is: prefixes, then each with the letters behind it. */
    private int wordOfRow(int r) {
        if (r < now.prefixCount) {
            return now.prefixes[r];
        }
        int beyond = r - now.prefixCount;
        return realm.withLetter(now.prefixes[beyond / realm.letters], beyond % realm.letters);
    }

    private int keptImages() {
        int count = 0;
        for (int k = 0; k < IMAGES; k++) {
            count += kept[k] ? 1 : 0;
        }
        return count;
    }

    private int standingShelves() {
        int count = 0;
        for (int k = 0; k < SHELVES; k++) {
            count += shelves[k].size == Shelf.NOTHING ? 0 : 1;
        }
        return count;
    }

    /** The machine m, or null where there is no GUESS. */
    private Machine machineOf(int m) {
        if (m == TEACHER) {
            return now.teacher;
        }
        if (m == GUESS) {
            return now.guessed ? now.guess : null;
        }
        return leastMachine();
    }

    private Machine leastMachine() {
        if (!leastKnown) {
            basis.seeAllEndings(now.teacher);
            basis.widen();
            basis.build(least);
            System.arraycopy(basis.words, 0, leastWords, 0, least.states);
            leastKnown = true;
        }
        return least;
    }

    private void changed() {
        leastKnown = false;
        now.renew();
    }

    /** Puts the rows of the prefixes into the basis, told by the suffixes. */
    private void layTable() {
        basis.open(now.teacher);
        for (int i = 0; i < now.suffixCount; i++) {
            basis.seeEnding(now.suffixes[i]);
        }
        basis.shut();
        for (int i = 0; i < now.prefixCount; i++) {
            basis.offer(now.prefixes[i]);
        }
    }

    private boolean isClosed() {
        layTable();
        return basis.widen() == 0;
    }

    private int firstDifference(Machine other) {
        difference.become(0);
        difference.append(now.teacher, 1);
        difference.append(other, realm.prime - 1);
        return basis.firstOfSomeValue(difference);
    }

    /** P and L, which all machines of an object share: residues, and words by their NUMBERS. */
    private static final class Realm {
        static final int FIRST_PRIME = 7, FIRST_LETTERS = 2;
        private static final int LEAST_PRIME = 2, GREATEST_PRIME = 97;

        int prime = FIRST_PRIME;
        int letters = FIRST_LETTERS;

        static boolean isPrime(int p) {
            if (p < LEAST_PRIME || p > GREATEST_PRIME) {
                return false;
            }
            for (int d = 2; d * d <= p; d++) {
                if (p % d == 0) {
                    return false;
                }
            }
            return true;
        }

        /** All divisions are by these two: so none but what may divide is let in. */
        void become(int p, int l) {
            prime = isPrime(p) ? p : FIRST_PRIME;
            letters = l >= 1 && l <= MOST_LETTERS ? l : FIRST_LETTERS;
        }

        boolean hasResidue(int v) {
            return v >= 0 && v < prime;
        }

        boolean hasLetter(int x) {
            return x >= 0 && x < letters;
        }

        int inverse(int v) {
            for (int i = 1; i < prime; i++) {
                if (v * i % prime == 1) {
                    return i;
                }
            }
            return 0;
        }

        int withLetter(int w, int x) {
            return w * letters + x + 1;
        }

        int lastLetter(int w) {
            return w > 0 ? (w - 1) % letters : 0;
        }

        int withoutLast(int w) {
            return w > 0 ? (w - 1) / letters : 0;
        }

        int withWord(int w, int ending) {
            return w * power(lengthOf(ending)) + ending;
        }

        int lengthOf(int w) {
            int length = 0;
            for (int rest = w; rest > 0 && length < LONGEST_WORD; rest = withoutLast(rest)) {
                length++;
            }
            return length;
        }

        /** How many words have so many letters. */
        int power(int length) {
            int words = 1;
            for (int i = 0; i < length; i++) {
                words *= letters;
            }
            return words;
        }

        int firstOfLength(int length) {
            int first = 0;
            for (int i = 0; i < length; i++) {
                first = withLetter(first, 0);
            }
            return first;
        }

        /** The ending of so many letters, of a word that has as many at least. */
        int ending(int w, int length) {
            int ahead = w;
            for (int i = 0; i < length; i++) {
                ahead = withoutLast(ahead);
            }
            return w - ahead * power(length);
        }
    }

    /** Starts, ends, weights of states: what no state has is 0. */
    private static final class Machine {
        private final Realm realm;
        private final int most;
        int states;
        final int[] starts;
        final int[] ends;
        final int[] weights;

        Machine(Realm realm, int most) {
            this.realm = realm;
            this.most = most >= 0 && most <= Span.WIDEST ? most : 0;
            starts = new int[this.most];
            ends = new int[this.most];
            weights = new int[this.most * MOST_LETTERS * this.most];
        }

        boolean has(int s) {
            return s >= 0 && s < states;
        }

        int at(int s, int x, int t) {
            return (s * MOST_LETTERS + x) * most + t;
        }

        /** So many states, all 0. */
        void become(int count) {
            states = count <= most ? count : most;
            Arrays.fill(starts, 0);
            Arrays.fill(ends, 0);
            Arrays.fill(weights, 0);
        }

        void copy(Machine other) {
            become(0);
            append(other, 1);
        }

        /** The states of another come behind, their starts multiplied by a factor. */
        void append(Machine other, int factor) {
            if (states + other.states > most) {
                return;
            }
            int first = states;
            for (int s = 0; s < other.states; s++) {
                starts[first + s] = other.starts[s] * factor % realm.prime;
                ends[first + s] = other.ends[s];
                for (int x = 0; x < realm.letters; x++) {
                    System.arraycopy(other.weights, other.at(s, x, 0),
                            weights, at(first + s, x, first), other.states);
                }
            }
            states += other.states;
        }

        /** A state that there is goes; those behind it move down. */
        void omit(int gone) {
            for (int s = gone; s < states - 1; s++) {
                starts[s] = starts[s + 1];
                ends[s] = ends[s + 1];
            }
            for (int s = 0; s < states - 1; s++) {
                for (int x = 0; x < realm.letters; x++) {
                    for (int t = 0; t < states - 1; t++) {
                        int from = at(s < gone ? s : s + 1, x, t < gone ? t : t + 1);
                        weights[at(s, x, t)] = weights[from];
                    }
                }
            }
            states--;
            clearState(states);
        }

        /** A state that grows at this place again must find all 0. */
        private void clearState(int s) {
            starts[s] = 0;
            ends[s] = 0;
            for (int x = 0; x < realm.letters; x++) {
                for (int t = 0; t < most; t++) {
                    weights[at(s, x, t)] = 0;
                    weights[at(t, x, s)] = 0;
                }
            }
        }

        void reverse() {
            for (int s = 0; s < states; s++) {
                int start = starts[s];
                starts[s] = ends[s];
                ends[s] = start;
                for (int x = 0; x < realm.letters; x++) {
                    for (int t = 0; t < s; t++) {
                        int there = weights[at(s, x, t)];
                        weights[at(s, x, t)] = weights[at(t, x, s)];
                        weights[at(t, x, s)] = there;
                    }
                }
            }
        }

        void multiplyStarts(int v) {
            for (int s = 0; s < states; s++) {
                starts[s] = starts[s] * v % realm.prime;
            }
        }

        /** What was told as a number of any size becomes a residue. */
        void reduce() {
            for (int s = 0; s < most; s++) {
                starts[s] %= realm.prime;
                ends[s] %= realm.prime;
            }
            for (int i = 0; i < weights.length; i++) {
                weights[i] %= realm.prime;
            }
        }

        /** What comes to each state by one letter more, from what has come so far. */
        void forward(int[] from, int x, int[] to) {
            for (int t = 0; t < states; t++) {
                int sum = 0;
                int place = at(0, x, t);
                for (int s = 0; s < states; s++) {
                    sum += from[s] * weights[place];
                    place += MOST_LETTERS * most;
                }
                to[t] = sum % realm.prime;
            }
        }

        /** What goes on from each state by one letter ahead, from what goes on behind it. */
        void backward(int[] from, int x, int[] to) {
            for (int s = 0; s < states; s++) {
                int sum = 0;
                int place = at(s, x, 0);
                for (int t = 0; t < states; t++) {
                    sum += weights[place + t] * from[t];
                }
                to[s] = sum % realm.prime;
            }
        }

        int product(int[] a, int[] b) {
            int sum = 0;
            for (int s = 0; s < states; s++) {
                sum += a[s] * b[s];
            }
            return sum % realm.prime;
        }
    }

    /** Rows that are no combination of one another, and how any row is combined of them. */
    private static final class Span {
        static final int WIDEST = 2 * MOST_STATES;

        private final Realm realm;
        /** Each has a 1 at its pivot, where all behind it have 0: so a row is taken apart in order. */
        final int[][] echelon = new int[WIDEST][WIDEST];
        /** How each row of the echelon is combined of the rows that were let in. */
        private final int[][] makings = new int[WIDEST][WIDEST];
        private final int[] pivots = new int[WIDEST];
        private final int[] rest = new int[WIDEST];
        private int pivotOfRest;
        /** The combination that was found last. */
        final int[] parts = new int[WIDEST];
        private int width;
        int size;

        Span(Realm realm) {
            this.realm = realm;
        }

        void clear(int newWidth) {
            width = newWidth <= WIDEST ? newWidth : WIDEST;
            size = 0;
        }

        boolean combines(int[] row) {
            int p = realm.prime;
            System.arraycopy(row, 0, rest, 0, width);
            Arrays.fill(parts, 0);
            for (int i = 0; i < size; i++) {
                int factor = rest[pivots[i]];
                if (factor == 0) {
                    continue;
                }
                for (int c = 0; c < width; c++) {
                    rest[c] = (rest[c] + (p - factor) * echelon[i][c]) % p;
                }
                for (int j = 0; j <= i; j++) {
                    parts[j] = (parts[j] + factor * makings[i][j]) % p;
                }
            }
            for (int c = 0; c < width; c++) {
                if (rest[c] != 0) {
                    pivotOfRest = c;
                    return false;
                }
            }
            return true;
        }

        /** Lets a row in, if it is no combination of those that are there. */
        boolean admit(int[] row) {
            if (combines(row) || size >= WIDEST) {
                return false;
            }
            int p = realm.prime;
            int inverse = realm.inverse(rest[pivotOfRest]);
            pivots[size] = pivotOfRest;
            for (int c = 0; c < width; c++) {
                echelon[size][c] = rest[c] * inverse % p;
            }
            for (int j = 0; j < size; j++) {
                makings[size][j] = (p - parts[j]) * inverse % p;
            }
            makings[size][size] = inverse;
            size++;
            return true;
        }
    }

    /**
     * Words of a machine whose rows are no combination of one another. The columns of a row are not
     * all endings, but rows of residues that span what goes on by them: a row is combined of others
     * by its values behind all endings just if it is so by these, of which there are few.
     */
    private static final class Basis {
        private final Realm realm;
        final Span columns;
        final Span rows;
        final int[] words = new int[Span.WIDEST];
        /** What comes from all starts by each of the words. */
        private final int[][] reached = new int[Span.WIDEST][Span.WIDEST];
        private final int[] row = new int[Span.WIDEST];
        private final int[] letters = new int[LONGEST_WORD];
        private int[] here = new int[Span.WIDEST];
        private int[] there = new int[Span.WIDEST];
        private Machine machine;
        int size;

        Basis(Realm realm) {
            this.realm = realm;
            columns = new Span(realm);
            rows = new Span(realm);
            machine = new Machine(realm, 0);
        }

        /** No words, no columns: the columns come next, and then shut(). */
        void open(Machine newMachine) {
            machine = newMachine;
            columns.clear(machine.states);
            size = 0;
        }

        void shut() {
            rows.clear(columns.size);
        }

        void seeEnding(int ending) {
            if (columns.size < machine.states) {
                goBack(machine, ending);
                columns.admit(here);
            }
        }

        /** The columns of all words: what goes on from a span of endings by each letter ahead. */
        void seeAllEndings(Machine newMachine) {
            open(newMachine);
            columns.admit(machine.ends);
            for (int i = 0; i < columns.size && i < Span.WIDEST; i++) {
                for (int x = 0; x < realm.letters; x++) {
                    machine.backward(columns.echelon[i], x, there);
                    columns.admit(there);
                }
            }
            shut();
        }

        /** A column for each state: rows are what comes to the states, whatever goes on there. */
        void seeStates(Machine newMachine) {
            open(newMachine);
            for (int s = 0; s < machine.states; s++) {
                Arrays.fill(there, 0);
                there[s] = 1;
                columns.admit(there);
            }
            shut();
        }

        void offer(int w) {
            goForth(w);
            offerHere(w);
        }

        private void offerHere(int w) {
            makeRow();
            if (size < words.length && rows.admit(row)) {
                words[size] = w;
                System.arraycopy(here, 0, reached[size], 0, machine.states);
                size++;
            }
        }

        /**
         * Offers the empty word, if there are no words, and then each word with each letter behind
         * it. One pass is enough: what was refused stays a combination when others have come.
         */
        int widen() {
            int had = size;
            if (size == 0) {
                System.arraycopy(machine.starts, 0, here, 0, machine.states);
                offerHere(0);
            }
            for (int i = 0; i < size && i < words.length; i++) {
                for (int x = 0; x < realm.letters; x++) {
                    machine.forward(reached[i], x, here);
                    offerHere(realm.withLetter(words[i], x));
                }
            }
            return size - had;
        }

        /** Whether the row of a word is a combination, which rows.parts then tells. */
        boolean combines(int w) {
            goForth(w);
            makeRow();
            return rows.combines(row);
        }

        /** The machine whose states are the words, of which no more can come. */
        void build(Machine made) {
            made.become(size);
            for (int i = 0; i < made.states; i++) {
                made.starts[i] = i == 0 ? 1 : 0;
                made.ends[i] = machine.product(reached[i], machine.ends);
                for (int x = 0; x < realm.letters; x++) {
                    machine.forward(reached[i], x, here);
                    makeRow();
                    rows.combines(row);
                    System.arraycopy(rows.parts, 0, made.weights, made.at(i, x, 0), made.states);
                }
            }
        }

        /**
         * The first word of some value, or NONE: it is no combination of lesser ones, which have no
         * value, nor is what it begins with, so it is among the words that come.
         */
        int firstOfSomeValue(Machine newMachine) {
            seeStates(newMachine);
            widen();
            for (int i = 0; i < size; i++) {
                if (machine.product(reached[i], machine.ends) != 0) {
                    return words[i];
                }
            }
            return NONE;
        }

        int valueOf(Machine other, int w) {
            goBack(other, w);
            return other.product(other.starts, here);
        }

        private void makeRow() {
            for (int c = 0; c < columns.size; c++) {
                row[c] = machine.product(here, columns.echelon[c]);
            }
        }

        private void goForth(int w) {
            int length = realm.lengthOf(w);
            int rest = w;
            for (int i = length - 1; i >= 0; i--) {
                letters[i] = realm.lastLetter(rest);
                rest = realm.withoutLast(rest);
            }
            System.arraycopy(machine.starts, 0, here, 0, machine.states);
            for (int i = 0; i < length; i++) {
                machine.forward(here, letters[i], there);
                swap();
            }
        }

        private void goBack(Machine other, int w) {
            int length = realm.lengthOf(w);
            int rest = w;
            System.arraycopy(other.ends, 0, here, 0, other.states);
            for (int i = 0; i < length; i++) {
                other.backward(here, realm.lastLetter(rest), there);
                rest = realm.withoutLast(rest);
                swap();
            }
        }

        private void swap() {
            int[] other = here;
            here = there;
            there = other;
        }
    }

    /** THE TEACHER, THE TABLE, ROUNDS, THE GUESS: what an IMAGE keeps. */
    private static final class Study {
        /** 24 by asking; at most 3, 4, 5, 6 more by learning, since each counter lifts the rank. */
        private static final int MOST_SUFFIXES = 48;

        private final Realm realm;
        final Machine teacher;
        final Machine guess;
        final int[] prefixes = new int[MOST_STATES];
        final int[] suffixes = new int[MOST_SUFFIXES];
        int prefixCount;
        int suffixCount;
        int rounds;
        boolean guessed;

        Study(Realm realm) {
            this.realm = realm;
            teacher = new Machine(realm, MOST_STATES);
            guess = new Machine(realm, MOST_STATES);
            renew();
        }

        /** THE TABLE is ANEW. */
        void renew() {
            prefixCount = 0;
            suffixes[0] = 0;
            suffixCount = 1;
            rounds = 0;
            guessed = false;
        }

        void copy(Study other) {
            teacher.copy(other.teacher);
            guess.copy(other.guess);
            System.arraycopy(other.prefixes, 0, prefixes, 0, other.prefixCount);
            System.arraycopy(other.suffixes, 0, suffixes, 0, other.suffixCount);
            prefixCount = other.prefixCount;
            suffixCount = other.suffixCount;
            rounds = other.rounds;
            guessed = other.guessed;
        }

        void takePrefixes(Basis basis) {
            prefixCount = basis.size <= MOST_STATES ? basis.size : MOST_STATES;
            System.arraycopy(basis.words, 0, prefixes, 0, prefixCount);
        }

        private boolean hasSuffix(int w) {
            for (int i = 0; i < suffixCount; i++) {
                if (suffixes[i] == w) {
                    return true;
                }
            }
            return false;
        }

        int newEndings(int w) {
            int count = 0;
            int length = realm.lengthOf(w);
            for (int i = 0; i <= length; i++) {
                count += hasSuffix(realm.ending(w, i)) ? 0 : 1;
            }
            return count;
        }

        void addEndings(int w) {
            int length = realm.lengthOf(w);
            for (int i = 0; i <= length; i++) {
                int ending = realm.ending(w, i);
                if (suffixCount < MOST_SUFFIXES && !hasSuffix(ending)) {
                    suffixes[suffixCount] = ending;
                    suffixCount++;
                }
            }
        }

        /**
         * With each suffix all its endings are suffixes, with each prefix all that it begins with
         * are prefixes. So a word is counted once if it is counted where its suffix is longest: each
         * suffix by itself, and behind a prefix and a letter each suffix that is none with that
         * letter ahead of it. Of those that are, there is one for each suffix but the empty one.
         */
        int unlikeWords(int letters) {
            if (prefixCount == 0) {
                return 0;
            }
            return suffixCount + prefixCount * (letters * suffixCount - (suffixCount - 1));
        }
    }

    /** Counts the values of all words of a length. */
    private static final class Census {
        /** Words of half the greatest length at most, of all letters: 1, 3, 9, 27. */
        private static final int HALF_WORDS = 40;

        private final Realm realm;
        private final int[][] heads = new int[HALF_WORDS][MOST_STATES];
        private final int[][] tails = new int[HALF_WORDS][MOST_STATES];
        private int words;
        private int zeros;
        private int sum;

        Census(Realm realm) {
            this.realm = realm;
        }

        /** A word is a head and a tail: each half is walked once, not once for each word. */
        void count(Machine machine, int length) {
            int headLength = length / 2;
            int tailLength = length - headLength;
            int firstHead = realm.firstOfLength(headLength);
            int firstTail = realm.firstOfLength(tailLength);
            int manyHeads = realm.power(headLength);
            int manyTails = realm.power(tailLength);
            walkHeads(machine, firstHead + manyHeads);
            walkTails(machine, firstTail + manyTails);
            words = manyHeads * manyTails;
            zeros = 0;
            sum = 0;
            for (int h = firstHead; h < firstHead + manyHeads; h++) {
                for (int t = firstTail; t < firstTail + manyTails; t++) {
                    int found = machine.product(heads[h], tails[t]);
                    zeros += found == 0 ? 1 : 0;
                    sum += found;
                }
            }
        }

        private void walkHeads(Machine machine, int many) {
            System.arraycopy(machine.starts, 0, heads[0], 0, machine.states);
            for (int w = 1; w < many; w++) {
                machine.forward(heads[realm.withoutLast(w)], realm.lastLetter(w), heads[w]);
            }
        }

        /** Tails are numbered as if turned round, which is one when all of a length are counted. */
        private void walkTails(Machine machine, int many) {
            System.arraycopy(machine.ends, 0, tails[0], 0, machine.states);
            for (int w = 1; w < many; w++) {
                machine.backward(tails[realm.withoutLast(w)], realm.lastLetter(w), tails[w]);
            }
        }

        int shareBits() {
            return words > 0 ? bitsOfFloat((float) zeros / (float) words) : 0;
        }

        long meanBits() {
            return words > 0 ? bitsOfDouble((double) sum / (double) words) : 0;
        }

        /** Of a share, 0 to 1: doubling is exact, so the figures come out as they stand. */
        private static int bitsOfFloat(float share) {
            float f = share;
            int exponent = 127;
            if (f <= 0f) {
                return 0;
            }
            for (int i = 0; i < 100 && f < 1f; i++) {
                f *= 2f;
                exponent--;
            }
            return (exponent << 23) + ((int) (f * 8388608f) - 8388608);
        }

        /** Of a mean of residues, 0 or well above the least double. */
        private static long bitsOfDouble(double mean) {
            double d = mean;
            int exponent = 1023;
            if (d <= 0.0) {
                return 0;
            }
            for (int i = 0; i < 100 && d < 1.0; i++) {
                d *= 2.0;
                exponent--;
            }
            for (int i = 0; i < 100 && d >= 2.0; i++) {
                d /= 2.0;
                exponent++;
            }
            return ((long) exponent << 52) + ((long) (d * 4503599627370496.0) - (1L << 52));
        }
    }

    private static final class Dice {
        private final int prime;
        private int seed;

        Dice(int seed, int prime) {
            this.seed = seed;
            this.prime = prime;
        }

        int nextResidue() {
            seed = seed * 1103515245 + 12345;
            int got = (seed >>> 16) & 0x7FFF;
            return got / 128 % 2 == 0 || prime < 1 ? 0 : got % prime;
        }
    }

    /** A row of cells, whose faults are found before they happen. */
    private static final class Shelf {
        static final int TOLD = 0, MADE = 1;
        static final int NOTHING = -1;

        private final Realm realm;
        /** A machine that was made for a cell once is used again: kinds tells whether it is there. */
        final Machine[] cells = new Machine[CELLS];
        final int[] kinds = new int[CELLS];
        private int lane;
        int size = NOTHING;

        Shelf(Realm realm) {
            this.realm = realm;
        }

        void vanish() {
            size = NOTHING;
        }

        void stand(int newLane, int newSize) {
            lane = newLane;
            size = newSize;
            Arrays.fill(kinds, NOTHING);
        }

        private boolean hasCell(int i) {
            return i >= 0 && i < size;
        }

        int faultOfLaying(int i, int kindOfCopy) {
            if (size == NOTHING) {
                return NULL;
            }
            if (!hasCell(i)) {
                return INDEX;
            }
            return lane != ANY && lane != kindOfCopy ? STORE : 0;
        }

        int faultOfTaking(int asLane, int i) {
            if (size == NOTHING) {
                return NULL;
            }
            if (asLane != ANY && asLane != lane) {
                return CAST;
            }
            if (!hasCell(i)) {
                return INDEX;
            }
            return kinds[i] == NOTHING || cells[i] == null ? EMPTY : 0;
        }

        void put(int i, Machine machine, int kindOfCopy) {
            if (!hasCell(i)) {
                return;
            }
            if (cells[i] == null) {
                cells[i] = new Machine(realm, MOST_STATES);
            }
            cells[i].copy(machine);
            kinds[i] = kindOfCopy;
        }
    }

    /** THE TAPE, and how it is read: nothing is told by it before all of it has been taken. */
    private static final class Reader {
        private static final int TAPE = 200;
        private static final int GREATEST_NUMBER = 99;

        private static final int END = 0, NAME = 1, NUMBER = 2, SIGN = 3, OTHER = 4;
        private static final int PRIME_LINE = 0, LETTERS_LINE = 1, STATES_LINE = 2;
        private static final int START_LINE = 3, END_LINE = 4, EDGE_LINE = 5, NO_LINE = -1;
        private static final int NO_TOKEN = 1, MISPLACED = 2, OUT_OF_BOUNDS = 3, TWICE = 4, MISSING = 5;

        private final byte[] tape = new byte[TAPE];
        int length;
        private int place;
        private int token;
        private int from;
        private int number;

        private final Machine draft;
        private final boolean[] told = new boolean[3];
        private int greatestState;
        private int greatestLetter;
        int prime;
        int letters;
        private int states;

        int refusal;
        int refusedAt;

        Reader(Realm realm) {
            draft = new Machine(realm, MOST_STATES);
        }

        boolean put(int c) {
            if (length >= TAPE) {
                return false;
            }
            tape[length] = (byte) c;
            length++;
            return true;
        }

        /** How many lines there are, if there is no refusal. */
        int readAll() {
            forget();
            int lines = 0;
            while (lines < TAPE) {
                next();
                if (refusal != 0 || token == END) {
                    break;
                }
                readLine();
                lines++;
            }
            if (greatestState >= states || greatestLetter >= letters) {
                refuse(MISSING, length);
            }
            return lines;
        }

        /** The machine that was read; P and L are known to all by now. */
        void hand(Machine teacher) {
            draft.states = states;
            draft.reduce();
            teacher.copy(draft);
        }

        private void forget() {
            place = 0;
            refusal = 0;
            refusedAt = 0;
            draft.become(0);
            for (int line = 0; line < told.length; line++) {
                told[line] = false;
            }
            greatestState = -1;
            greatestLetter = -1;
            prime = Realm.FIRST_PRIME;
            letters = Realm.FIRST_LETTERS;
            states = 0;
        }

        private void refuse(int why, int where) {
            if (refusal == 0) {
                refusal = why;
                refusedAt = where;
            }
        }

        private void readLine() {
            int line = kindOfLine();
            if (line == NO_LINE) {
                refuse(MISPLACED, from);
                return;
            }
            if (line <= STATES_LINE) {
                if (told[line]) {
                    refuse(TWICE, from);
                }
                told[line] = true;
            }
            switch (line) {
                case PRIME_LINE: prime = takePrime(); break;
                case LETTERS_LINE: letters = takeNumber(1, MOST_LETTERS); break;
                case STATES_LINE: states = takeNumber(0, MOST_STATES); break;
                case EDGE_LINE: readEdge(); break;
                default: readStateLine(line); break;
            }
            takeSign();
        }

        private int kindOfLine() {
            if (token != NAME) {
                return NO_LINE;
            }
            if (isNamed("prime")) {
                return PRIME_LINE;
            }
            if (isNamed("letters")) {
                return LETTERS_LINE;
            }
            if (isNamed("states")) {
                return STATES_LINE;
            }
            if (isNamed("start")) {
                return START_LINE;
            }
            if (isNamed("end")) {
                return END_LINE;
            }
            return isNamed("edge") ? EDGE_LINE : NO_LINE;
        }

        private void readStateLine(int line) {
            int s = takeNumber(0, MOST_STATES - 1);
            int v = takeNumber(0, GREATEST_NUMBER);
            greatestState = Math.max(greatestState, s);
            if (line == START_LINE) {
                draft.starts[s] = v;
            } else {
                draft.ends[s] = v;
            }
        }

        private void readEdge() {
            int s = takeNumber(0, MOST_STATES - 1);
            int x = takeLetter();
            int t = takeNumber(0, MOST_STATES - 1);
            greatestState = Math.max(greatestState, Math.max(s, t));
            greatestLetter = Math.max(greatestLetter, x);
            draft.weights[draft.at(s, x, t)] = takeNumber(0, GREATEST_NUMBER);
        }

        private int takePrime() {
            int p = takeNumber(0, GREATEST_NUMBER);
            if (refusal == 0 && !Realm.isPrime(p)) {
                refuse(OUT_OF_BOUNDS, from);
            }
            return p;
        }

        /** A number of these bounds; the least of them, if there is a refusal. */
        private int takeNumber(int least, int most) {
            next();
            if (refusal == 0 && token != NUMBER) {
                refuse(MISPLACED, from);
            }
            if (refusal == 0 && (number < least || number > most)) {
                refuse(OUT_OF_BOUNDS, from);
            }
            return refusal == 0 ? number : least;
        }

        private int takeLetter() {
            next();
            if (refusal != 0) {
                return 0;
            }
            int x = token == NAME && place - from == 1 ? tape[from] - 'a' : MOST_LETTERS;
            if (x >= MOST_LETTERS) {
                refuse(MISPLACED, from);
                return 0;
            }
            return x;
        }

        private void takeSign() {
            next();
            if (refusal == 0 && token != SIGN) {
                refuse(MISPLACED, from);
            }
        }

        /** Reads a token; behind a refusal none is read. */
        private void next() {
            if (refusal != 0) {
                return;
            }
            while (place < length && tape[place] == ' ') {
                place++;
            }
            from = place;
            token = place < length ? kindOfToken(tape[place]) : END;
            if (token == NAME) {
                readName();
            } else if (token == NUMBER) {
                readNumber();
            } else if (token == SIGN) {
                place++;
            }
            boolean tooLong = token == NUMBER && place - from > 2;
            if (token == OTHER || tooLong) {
                refuse(NO_TOKEN, from);
            }
        }

        private static int kindOfToken(int c) {
            if (c >= 'a' && c <= 'z') {
                return NAME;
            }
            if (c >= '0' && c <= '9') {
                return NUMBER;
            }
            return c == ';' ? SIGN : OTHER;
        }

        private void readName() {
            while (place < length && tape[place] >= 'a' && tape[place] <= 'z') {
                place++;
            }
        }

        /** Of a number that is too long only the length matters, but all of it belongs to it. */
        private void readNumber() {
            number = 0;
            while (place < length && tape[place] >= '0' && tape[place] <= '9') {
                number = number % 10 * 10 + (tape[place] - '0');
                place++;
            }
        }

        private boolean isNamed(String name) {
            if (place - from != name.length()) {
                return false;
            }
            for (int i = 0; i < name.length(); i++) {
                if (tape[from + i] != name.charAt(i)) {
                    return false;
                }
            }
            return true;
        }
    }
}
