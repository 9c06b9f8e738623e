/** The sentences under 'Terms'; each names a promise that leans on it. */
final class TermsBoundaries {
    private static final int[] PRIMES = {2, 3, 5, 7, 11, 13, 17, 19, 23, 29, 31, 37, 41, 43, 47, 53, 59, 61, 67,
        71, 73, 79, 83, 89, 97};

    private TermsBoundaries() {
    }

    // ---- ahead of the parts

    @Says(promise = 1, terms = true, value = "An object is used for at most 512 calls after it has been made; what"
            + " later calls answer is free.")
    static void answersFor512Calls() {
        Samples.fresh().times(511, "learn()").due("rule(7) 511");
        Samples.fresh().times(510, "feed(32)").due("rule(10) 200", "text() 0");
        Samples.fresh().calls("draw(12345, 3)", "letter(1)", "keep(0)").times(507, "turn()").due("rule(2) 3",
                "differ(0) 4");
        // behind these an answer may be any, but there is one
        WeightedWords object = new WeightedWords();
        object.draw(5, 4);
        for (int i = 0; i < 3000; i++) {
            object.learn();
            object.ask(i % 63);
            object.letter(i % 2);
            object.feed(i % 128);
        }
    }

    @Says(promise = 1, terms = true, value = "Answers: BAD -1 (a number is not as told, there is no such STATE,"
            + " LETTER, MACHINE, ROW, COLUMN, IMAGE, SHELF),")
    static void whatIsBad() {
        if (WeightedWords.BAD != -1) {
            BoundaryTest.wrong("BAD is " + WeightedWords.BAD);
        }
        Twins.refuse(Samples::rich, "scale(5) BAD", "drop(2) BAD", "letter(2) BAD", "value(3) BAD", "cell(6, 0) BAD",
                "cell(0, 3) BAD", "keep(2) BAD", "kind(3, 0) BAD");
        Samples.rich().due("scale(4) 2", "drop(1) 1", "letter(1) 4", "value(2) 0", "keep(1) 0", "kind(2, 0) NULL");
        Samples.rich().due("cell(5, 0) 2", "cell(0, 2) 2");
    }

    @Says(promise = 33, terms = true, value = "STATE -2 (as told), FULL -3, NONE -4 (there is none), the first that"
            + " fits;")
    static void theFirstThatFits() {
        if (WeightedWords.STATE != -2 || WeightedWords.FULL != -3 || WeightedWords.NONE != -4) {
            BoundaryTest.wrong("STATE, FULL, NONE are not as told");
        }
        // BAD ahead of FULL
        Twins.refuse(Samples::fullOfAll, "feed(128) BAD", "feed(127) FULL", "letter(2) BAD", "letter(1) FULL");
        Twins.refuse(Samples::fullOfSuffixes, "ask(364) BAD", "ask(360) FULL");
        // BAD ahead of STATE
        Twins.refuse(Samples::richWithoutGuess, "space(1, 3) BAD", "space(1, 2) STATE", "share(1, 7) BAD",
                "share(1, 6) STATE", "mean(1, 7) BAD", "mean(1, 6) STATE", "lay(3, 0, 1) BAD", "lay(2, 0, 1) STATE");
        // STATE ahead of FULL, of FAULTS
        Twins.refuse(Samples::fullOfAll, "join(2) BAD", "join(1) STATE", "join(0) FULL");
        Twins.refuse(Samples::richWithoutGuess, "lay(0, 0, 1) STATE", "lay(0, 9, 1) STATE", "lay(2, 9, 0) NULL");
        // BAD ahead of NONE, STATE ahead of NONE
        Samples.fresh().due("prefix(-1) BAD", "prefix(0) NONE", "counter() STATE", "learn() NONE", "counter() NONE",
                "differ(2) BAD", "differ(0) STATE", "keep(0) 0", "differ(0) NONE");
    }

    @Says(promise = 4, terms = true, value = "what is refused changes nothing (but THE TAPE, as told).")
    static void whatIsRefusedChangesNothing() {
        Twins.refuse(Samples::rich, "begins(0, 5) BAD", "take(0, 1, 1) CAST", "back(1) STATE", "prefix(2) NONE");
        Run run = Samples.rich().calls("end(0)");
        run.faulty("prime 3;prime", 4, 8).due("rule(10) 0", "rule(0) 5", "rule(2) 2", "rule(7) 2", "wipe() 3");
    }

    @Says(promise = 1, terms = true, value = "P is a prime (2 to 97; 7 at first).")
    static void primesFrom2To97() {
        Samples.fresh().due("rule(0) 7");
        boolean[] isPrime = new boolean[100];
        for (int p : PRIMES) {
            isPrime[p] = true;
        }
        for (int p = 0; p < 100; p++) {
            if (isPrime[p]) {
                Samples.fresh().reads("prime " + p + ";", 1).due("fault() 0", "rule(0) " + p);
            } else {
                Samples.fresh().faulty("prime " + p + ";", 3, 6).due("rule(0) 7");
            }
        }
    }

    @Says(promise = 25, terms = true, value = "RESIDUES are 0 to P less 1;")
    static void residuesFrom0ToPLess1() {
        for (int p : new int[] {2, 3, 7, 97}) {
            Run run = Samples.told("prime " + p + ";states 1;");
            run.due("begins(0, " + (p - 1) + ") 0", "begins(0, " + p + ") BAD", "begins(0, -1) BAD");
            run.due("start(0, 0) " + (p - 1), "begins(0, 0) " + (p - 1), "start(0, 0) 0");
        }
    }

    @Says(promise = 12, terms = true, value = "all that is summed and multiplied is so modulo P.")
    static void sumsAndProductsWrapAround() {
        // four states of P less 1 all over: words of n letters have 4 times -4 to the n
        Run run = Samples.told("prime 97;letters 1;states 4;");
        for (int s = 0; s < 4; s++) {
            run.calls("begins(" + s + ", 96)", "ends(" + s + ", 96)");
            for (int t = 0; t < 4; t++) {
                run.calls("leads(" + s + ", 0, " + t + ", 96)");
            }
        }
        run.values("", 4).values("a", 97 - 16).values("aa", 64).values("aaaaaaaaaaaa", 93);
        run.due("space(0, 0) 1", "space(0, 1) 1", "space(0, 2) 1", "edge(2, 0, 0, 0) 93", "finish(2, 0) 4");
        Samples.told("prime 2;states 2;start 0 1;start 1 1;end 0 1;end 1 1;").values("", 0).due("rule(4) 0");
        Samples.told("prime 2;states 1;start 0 1;end 0 1;").values("", 1).due("rule(4) 1");
    }

    @Says(promise = 10, terms = true, value = "LETTERS are 0 to L less 1 (L 1 to 3; 2 at first).")
    static void lettersFrom0ToLLess1() {
        Samples.fresh().due("rule(1) 2", "letter(1) 1", "letter(2) BAD");
        Samples.fresh().faulty("letters 0;", 3, 8).due("rule(1) 2");
        Samples.fresh().faulty("letters 4;", 3, 8).due("rule(1) 2");
        Samples.fresh().faulty("letters 99;", 3, 8).due("rule(1) 2");
        for (int l = 1; l <= 3; l++) {
            Run run = Samples.fresh().reads("letters " + l + ";states 1;", 2).due("rule(1) " + l);
            run.due("letter(-1) BAD", "letter(0) 1", "letter(" + (l - 1) + ") 2", "letter(" + l + ") BAD");
            run.due("edge(0, 0, -1, 0) BAD", "edge(0, 0, 0, 0) 0", "edge(0, 0, " + (l - 1) + ", 0) 0",
                    "edge(0, 0, " + l + ", 0) BAD");
            run.due("leads(0, -1, 0, 1) BAD", "leads(0, " + (l - 1) + ", 0, 1) 0", "leads(0, " + l + ", 0, 1) BAD");
        }
    }

    @Says(promise = 17, terms = true, value = "WORDS are rows of LETTERS; the NUMBER of a WORD: 0 the empty one, then"
            + " those of one LETTER, of two, and so on, of as many by their first LETTER, then by the second, and so"
            + " on.")
    static void numbersOfWords() {
        int[][] endings = {{1, 5, 0, 1, 2, 3, 4, 5}, {2, 31, 0, 1, 3, 7, 15, 31}, {2, 62, 0, 2, 6, 14, 30, 62},
            {3, 121, 0, 1, 4, 13, 40, 121}, {3, 363, 0, 3, 12, 39, 120, 363},
            // abc, cab, bcabc; abb, bab
            {3, 18, 0, 3, 9, 18}, {3, 32, 0, 2, 5, 32}, {3, 261, 0, 3, 9, 18, 99, 261},
            {2, 10, 0, 2, 6, 10}, {2, 12, 0, 2, 4, 12}};
        for (int[] row : endings) {
            Run run = Samples.told("letters " + row[0] + ";").calls("ask(" + row[1] + ")");
            for (int i = 2; i < row.length; i++) {
                run.due("suffix(" + (i - 2) + ") " + row[i]);
            }
            run.due("suffix(" + (row.length - 2) + ") NONE");
        }
        // the last word of two letters is less than the first of three
        Samples.told("prime 2;states 4;start 0 1;end 3 1;edge 0 b 1 1;edge 1 b 3 1;edge 0 a 2 1;edge 2 a 1 1;")
                .calls("learn()").due("counter() 6");
    }

    // ---- 1

    @Says(promise = 28, terms = true, value = "A MACHINE has STATES 0 on (4 at most), each with a START and an END, and"
            + " for each STATE, each LETTER, each STATE a WEIGHT: all RESIDUES.")
    static void fourStatesAtMost() {
        Run run = Samples.told("prime 97;letters 3;").due("grow() 1", "grow() 2", "grow() 3", "grow() 4", "grow() FULL");
        for (int s = 0; s < 4; s++) {
            run.due("begins(" + s + ", " + (60 + s) + ") 0", "ends(" + s + ", " + (70 + s) + ") 0");
        }
        for (int i = 0; i < 48; i++) {
            run.due("leads(" + i / 12 + ", " + i / 4 % 3 + ", " + i % 4 + ", " + (i + 1) + ") 0");
        }
        for (int s = 0; s < 4; s++) {
            run.due("start(0, " + s + ") " + (60 + s), "finish(0, " + s + ") " + (70 + s));
        }
        for (int i = 0; i < 48; i++) {
            run.due("edge(0, " + i / 12 + ", " + i / 4 % 3 + ", " + i % 4 + ") " + (i + 1));
        }
        run.due("start(0, 4) BAD", "finish(0, 4) BAD", "edge(0, 4, 0, 0) BAD", "edge(0, 0, 0, 4) BAD");
    }

    @Says(promise = 12, terms = true, value = "Its VALUE of a WORD: of each row of STATES, one more than the WORD has"
            + " LETTERS, START of the first, WEIGHTS from each to the next by the LETTERS, END of the last, multiplied;"
            + " these summed (without STATES 0).")
    static void valuesOfWords() {
        Run none = Samples.fresh().calls("learn()");
        for (int m = 0; m < 3; m++) {
            none.due("value(" + m + ") 0", "letter(0) " + (m + 1), "value(" + m + ") 0");
        }
        none.calls("letter(1)", "letter(1)", "letter(1)", "letter(1)", "letter(1)", "letter(1)", "letter(1)",
                "letter(1)", "letter(1)").due("letter(1) FULL", "value(0) 0", "value(1) 0", "value(2) 0");
        // rows of one state for the empty word, of two for words of one letter
        Run run = Samples.told("prime 97;states 2;start 0 2;start 1 3;end 0 5;end 1 7;edge 0 a 0 1;edge 0 a 1 2;"
                + "edge 1 a 0 3;edge 1 a 1 4;edge 0 b 1 1;");
        run.values("", 2 * 5 + 3 * 7).values("a", (2 * 5 + 2 * 2 * 7 + 3 * 3 * 5 + 3 * 4 * 7) % 97);
        run.values("b", 2 * 7).values("ab", (2 * 7 + 3 * 3 * 7) % 97).values("ba", (2 * 3 * 5 + 2 * 4 * 7) % 97);
        run.values("bb", 0);
    }

    @Says(promise = 6, terms = true, value = "THE TEACHER is a MACHINE (without STATES at first), THE GUESS is one or"
            + " there is none (at first).")
    static void teacherAndGuessAtFirst() {
        Samples.fresh().due("rule(2) 0", "rule(3) NONE", "start(0, 0) BAD", "start(1, 0) STATE", "value(1) STATE");
        // a guess without states is one
        Samples.fresh().calls("learn()").due("rule(3) 0", "start(1, 0) BAD", "value(1) 0");
    }

    @Says(promise = 2, terms = true, value = "THE TAPE has 200 bytes, places from 0.")
    static void tapeOf200BytesFromPlace0() {
        Run run = Samples.fresh().times(199, "feed(32)").due("rule(10) 199", "feed(64) 200", "feed(32) FULL");
        run.due("rule(10) 200", "text() -209", "fault() 1", "rule(10) 0", "feed(64) 1", "text() -10", "fault() 1");
    }

    @Says(promise = 4, terms = true, value = "TOKENS, each as long as may be, any number of blanks (32) ahead of,"
            + " between, behind them (one at least between two NAMES, between two NUMBERS; else none is needed):")
    static void blanksBetweenTokens() {
        // none where none is needed
        Samples.fresh().reads("prime5;letters3;states4;start3 1;end3 1;edge3c3 1;", 6).due("rule(0) 5", "rule(2) 4");
        Samples.fresh().reads("states 1;edge0a0 1;end0 1;", 3).due("edge(0, 0, 0, 0) 1");
        // any number elsewhere
        Samples.fresh().reads(" ", 0);
        Samples.fresh().reads("   prime   5   ;   ", 1).due("rule(0) 5");
        Samples.fresh().reads(" ".repeat(90) + "prime" + " ".repeat(90) + "5 ;", 1).due("rule(0) 5");
        Samples.fresh().reads("states 1 ; edge 0 a 0  1 ; ", 2).due("edge(0, 0, 0, 0) 1");
        // as long as may be: without a blank two numbers, two names are one
        Samples.fresh().faulty("states 4;start 31;", 3, 15);
        Samples.fresh().faulty("states 1;start 01;", 2, 17);
        Samples.fresh().faulty("states 1;start 001;", 1, 15);
        Samples.fresh().faulty("states 1;edge0a01;", 2, 17);
        Samples.fresh().faulty("primeprime 5;", 2, 0);
        Samples.fresh().faulty("primea", 2, 0);
        Samples.fresh().faulty("states 1;edge 0 aa 0 1;", 2, 16);
        // a blank within a name, a number makes two of it
        Samples.fresh().faulty("pri me 5;", 2, 0);
        Samples.fresh().faulty("prime 1 1;", 3, 6);
        Samples.fresh().faulty("prime 5 3;", 2, 8);
    }

    @Says(promise = 4, terms = true, value = "NAMES (a .. z), NUMBERS (1 or 2 figures), the sign ; (every other byte is"
            + " no TOKEN).")
    static void everyByte() {
        for (int c = 0; c < 128; c++) {
            boolean token = c >= 'a' && c <= 'z' || c >= '0' && c <= '9' || c == ';';
            String text = String.valueOf((char) c);
            if (c == ' ') {
                Samples.fresh().reads(text, 0);
            } else {
                Samples.fresh().faulty(text, token ? 2 : 1, 0);
            }
            // behind a name and a number all but the sign and a blank is a fault
            if (c != ';' && c != ' ' && !(c >= '0' && c <= '9')) {
                Samples.fresh().faulty("prime 5" + text + ";", token ? 2 : 1, 7);
            }
        }
        Samples.fresh().reads("prime 2;", 1);
        Samples.fresh().reads("prime 02;", 1).due("rule(0) 2");
        Samples.fresh().faulty("prime 002;", 1, 6).due("rule(0) 7");
        Samples.fresh().reads("prime 97;", 1);
        Samples.fresh().faulty("prime 970;", 1, 6);
    }

    @Says(promise = 4, terms = true, value = "text: { line } line: prime N ; | letters N ; | states N ; | start N N ; |"
            + " end N N ; | edge N X N N ; X: a | b | c")
    static void formsOfLines() {
        Samples.fresh().reads("", 0);
        String[] lines = {"prime 2;", "letters 3;", "states 4;", "start 3 9;", "end 3 9;", "edge 3 c 3 9;"};
        String all = "";
        for (int i = 0; i < lines.length; i++) {
            all += lines[i];
            Run run = Samples.fresh();
            if (i < 3) {
                run.reads(lines[i], 1);
            }
            run.reads(all, i + 1);
        }
        // a line that lacks its last, its first, one of its numbers, or has one too many
        Samples.fresh().faulty("prime;", 2, 5).faulty("letters;", 2, 7).faulty("states;", 2, 6);
        Samples.fresh().faulty("start 0;", 2, 7).faulty("end 0;", 2, 5).faulty("edge 0 a 0;", 2, 10);
        Samples.fresh().faulty("start;", 2, 5).faulty("end;", 2, 3).faulty("edge;", 2, 4).faulty("edge 0;", 2, 6);
        Samples.fresh().faulty("prime 5 5;", 2, 8).faulty("letters 1 1;", 2, 10).faulty("states 1 1;", 2, 9);
        Samples.fresh().faulty("start 0 1 1;", 2, 10).faulty("end 0 1 1;", 2, 8);
        Samples.fresh().faulty("edge 0 a 0 1 1;", 2, 13).faulty(";", 2, 0).faulty("prime 5;;", 2, 8);
        Samples.fresh().faulty("prime prime", 2, 6).faulty("start a 1;", 2, 6).faulty("edge a a 0 1;", 2, 5);
        lettersOfEdges();
    }

    private static void lettersOfEdges() {
        for (char c = 'a'; c <= 'z'; c++) {
            String text = "letters 3;states 1;edge 0 " + c + " 0 1;";
            if (c <= 'c') {
                Samples.fresh().reads(text, 3).due("edge(0, 0, " + (c - 'a') + ", 0) 1");
            } else {
                Samples.fresh().faulty(text, 2, 26);
            }
        }
        Samples.fresh().faulty("edge 0 0 0 1;", 2, 7).faulty("edge 0 ; 0 1;", 2, 7).faulty("edge 0 edge 0 1;", 2, 7);
    }

    @Says(promise = 4, terms = true, value = "prime: P. letters: L. states: how many STATES (0 to 4; not told: 0).")
    static void statesFrom0To4() {
        for (int n = 0; n <= 4; n++) {
            Run run = Samples.fresh().reads("states " + n + ";", 1).due("rule(2) " + n, "start(0, " + n + ") BAD");
            if (n > 0) {
                run.due("start(0, " + (n - 1) + ") 0", "finish(0, " + (n - 1) + ") 0");
            }
        }
        Samples.fresh().faulty("states 5;", 3, 7).due("rule(2) 0");
        Samples.fresh().faulty("states 99;", 3, 7).due("rule(2) 0");
        Samples.counts().reads("prime 3;letters 1;", 2).due("rule(2) 0", "rule(0) 3", "rule(1) 1");
    }

    @Says(promise = 7, terms = true, value = "start, end: of a STATE (0 to 3) its START, END.")
    static void toldStatesFrom0To3() {
        for (int s = 0; s < 4; s++) {
            Run run = Samples.fresh().reads("states 4;start " + s + " 3;end " + s + " 2;", 3);
            for (int t = 0; t < 4; t++) {
                run.due("start(0, " + t + ") " + (t == s ? 3 : 0), "finish(0, " + t + ") " + (t == s ? 2 : 0));
            }
        }
        Samples.fresh().faulty("states 4;start 4 1;", 3, 15).faulty("states 4;end 4 1;", 3, 13);
        Samples.fresh().faulty("start 99 1;", 3, 6).faulty("end 99 1;", 3, 4);
    }

    @Says(promise = 9, terms = true, value = "edge: from a STATE, by a LETTER (a is 0), to a STATE, its WEIGHT.")
    static void toldEdges() {
        Run run = Samples.fresh().reads("letters 3;states 4;edge 0 a 3 1;edge 3 c 0 2;edge 3 b 3 3;", 5);
        for (int i = 0; i < 48; i++) {
            int due = i == 3 ? 1 : i == 44 ? 2 : i == 43 ? 3 : 0;
            run.due("edge(0, " + i / 12 + ", " + i / 4 % 3 + ", " + i % 4 + ") " + due);
        }
        Samples.fresh().faulty("edge 4 a 0 1;", 3, 5).faulty("edge 0 a 4 1;", 3, 9);
        Samples.fresh().faulty("edge 99 a 0 1;", 3, 5).faulty("edge 0 a 99 1;", 3, 9);
    }

    @Says(promise = 4, terms = true, value = "What is not told is 0 (P, L: as at first);")
    static void whatIsNotTold() {
        Run run = Samples.told("prime 97;letters 3;states 4;start 0 9;end 3 9;edge 0 c 3 9;").reads("states 4;", 1);
        run.due("rule(0) 7", "rule(1) 2");
        for (int s = 0; s < 4; s++) {
            run.due("start(0, " + s + ") 0", "finish(0, " + s + ") 0");
        }
        for (int i = 0; i < 32; i++) {
            run.due("edge(0, " + i / 8 + ", " + i / 4 % 2 + ", " + i % 4 + ") 0");
        }
        run.reads("letters 3;states 4;", 2).due("edge(0, 0, 2, 3) 0");
    }

    @Says(promise = 4, terms = true, value = "a START, END, WEIGHT told (0 to 99) is taken modulo P;")
    static void toldResiduesAreTakenModuloP() {
        int[][] rows = {{7, 0, 0}, {7, 6, 6}, {7, 7, 0}, {7, 8, 1}, {7, 98, 0}, {7, 99, 1}, {2, 1, 1}, {2, 2, 0},
            {2, 99, 1}, {97, 96, 96}, {97, 97, 0}, {97, 98, 1}, {97, 99, 2}, {3, 99, 0}};
        for (int[] row : rows) {
            String told = "states 4;start 0 " + row[1] + ";start 3 " + row[1] + ";end 0 " + row[1] + ";end 3 " + row[1]
                    + ";edge 0 a 0 " + row[1] + ";edge 3 b 3 " + row[1] + ";";
            String prime = "prime " + row[0] + ";";
            // P may be told ahead of them or behind them
            for (String text : new String[] {prime + told, told + prime}) {
                Samples.fresh().reads(text, 8).due("start(0, 0) " + row[2], "finish(0, 0) " + row[2],
                        "start(0, 3) " + row[2], "finish(0, 3) " + row[2], "edge(0, 0, 0, 0) " + row[2],
                        "edge(0, 3, 1, 3) " + row[2]);
            }
        }
        Samples.fresh().faulty("start 0 100;", 1, 8).faulty("end 0 100;", 1, 6).faulty("edge 0 a 0 100;", 1, 11);
    }

    @Says(promise = 4, terms = true, value = "one that is told again is the latter.")
    static void toldAgain() {
        Run run = Samples.fresh().reads("states 2;start 1 1;start 1 2;start 1 3;end 1 4;end 1 0;edge 0 a 1 5;"
                + "edge 0 a 1 6;edge 0 b 1 2;edge 0 b 1 0;", 10);
        run.due("start(0, 1) 3", "start(0, 0) 0", "finish(0, 1) 0", "edge(0, 0, 0, 1) 6", "edge(0, 0, 1, 1) 0");
    }

    @Says(promise = 5, terms = true, value = "FAULTS, the first met as it is read (a TOKEN is read when the one before"
            + " has been taken):")
    static void theFirstFaultMet() {
        Samples.fresh().faulty("prime 4 @", 3, 6).faulty("prime 4@", 3, 6).faulty("prime 5 @", 1, 8);
        Samples.fresh().faulty("prime 5@;", 1, 7).faulty("name @", 2, 0).faulty("name@", 2, 0).faulty("prime@", 1, 5);
        Samples.fresh().faulty("prime 5;prime@", 4, 8).faulty("prime 5;prime 100", 4, 8);
        Samples.fresh().faulty("edge 4 @", 3, 5).faulty("edge 0 d @", 2, 7).faulty("edge 0 a 4 @", 3, 9);
        // what is behind all comes last
        Samples.fresh().faulty("start 3 1;@", 1, 10).faulty("start 3 1;name", 2, 10).faulty("start 3 1;prime 4;", 3, 16);
        Samples.fresh().faulty("states 1;start 3 1;states 4;", 4, 19).faulty("start 3 1;prime 5", 2, 17);
    }

    @Says(promise = 5, terms = true, value = "1 no TOKEN, a NUMBER that is too long (its first byte).")
    static void faultsOfTokens() {
        Samples.fresh().faulty("@", 1, 0).faulty("  @", 1, 2).faulty("prime 5;@", 1, 8).faulty("prime 5;  A", 1, 10);
        Samples.fresh().faulty("100", 1, 0).faulty("prime 100;", 1, 6).faulty("prime  1000;", 1, 7);
        Samples.fresh().faulty("prime 5 100", 1, 8).faulty("states 000;", 1, 7).faulty("start 0 100;", 1, 8);
        Samples.fresh().reads("states 00;", 1);
        Samples.fresh().faulty("1".repeat(200), 1, 0).faulty(" ".repeat(197) + "111", 1, 197);
        Samples.fresh().faulty(" ".repeat(198) + "11", 2, 198).faulty(" ".repeat(199) + "A", 1, 199);
    }

    @Says(promise = 5, terms = true, value = "2 a TOKEN that can not stand there (a NAME that begins no line, one that"
            + " is no X; or the end: the length).")
    static void faultsOfPlaces() {
        Samples.fresh().faulty("prim 5;", 2, 0).faulty("primes 5;", 2, 0).faulty("letter 2;", 2, 0);
        Samples.fresh().faulty("state 2;", 2, 0).faulty("starts 0 1;", 2, 0).faulty("ends 0 1;", 2, 0);
        Samples.fresh().faulty("edges 0 a 0 1;", 2, 0).faulty("en 0 1;", 2, 0).faulty("a 1;", 2, 0);
        Samples.fresh().faulty("xrime 5;", 2, 0).faulty("primf 5;", 2, 0).faulty("lettars 1;", 2, 0);
        Samples.fresh().faulty("aprime 5;", 2, 0).faulty("primez 5;", 2, 0).faulty("edge 0 az 0 1;", 2, 7);
        Samples.fresh().faulty("edge 0 d 0 1;", 2, 7).faulty("edge 0 ab 0 1;", 2, 7).faulty("edge 0 z 0 1;", 2, 7);
        // the end, also behind blanks, is at the length
        Samples.fresh().faulty("prime", 2, 5).faulty("prime ", 2, 6).faulty("prime 5", 2, 7).faulty("prime 5   ", 2, 10);
        Samples.fresh().faulty("start 0", 2, 7).faulty("edge 0 a", 2, 8).faulty("edge 0 ", 2, 7);
        Samples.fresh().faulty("prime" + " ".repeat(195), 2, 200).faulty(" ".repeat(195) + "prime", 2, 200);
        Samples.fresh().faulty("z".repeat(200), 2, 0);
    }

    @Says(promise = 5, terms = true, value = "3 a NUMBER out of its bounds (of prime one that is no prime, too).")
    static void faultsOfNumbers() {
        Samples.fresh().faulty("prime 0;", 3, 6).faulty("prime 1;", 3, 6).faulty("prime 98;", 3, 6);
        Samples.fresh().faulty("prime 99;", 3, 6).faulty("prime 4;", 3, 6).faulty("prime 91;", 3, 6);
        Samples.fresh().faulty("prime  49;", 3, 7).faulty("letters 0;", 3, 8).faulty("letters 04;", 3, 8);
        Samples.fresh().faulty("states 5;", 3, 7).faulty("start 4 0;", 3, 6).faulty("end 4 0;", 3, 4);
        Samples.fresh().faulty("edge 4 a 0 0;", 3, 5).faulty("edge 0 a 4 0;", 3, 9);
        Samples.fresh().reads("prime 2;letters 1;states 0;", 3).reads("prime 97;letters 3;states 4;", 3);
        Samples.fresh().reads("states 4;start 3 99;end 3 99;edge 3 a 3 99;", 4);
        Samples.fresh().reads("states 1;start 0 0;end 0 0;edge 0 a 0 0;", 4);
    }

    @Says(promise = 5, terms = true, value = "4 prime, letters, states for the second time (its NAME).")
    static void faultsOfTheSecondTime() {
        String[] lines = {"prime 5;", "letters 2;", "states 1;"};
        for (String line : lines) {
            Samples.fresh().faulty(line + line, 4, line.length());
            Samples.fresh().faulty(line + "  " + line, 4, line.length() + 2);
            Samples.fresh().faulty(line + line.substring(0, line.indexOf(' ')), 4, line.length());
            // once in each text is no second time
            Samples.fresh().reads(line, 1).reads(line, 1);
            Samples.fresh().faulty(line + line, 4, line.length()).reads(line, 1);
        }
        Samples.fresh().reads("prime 5;letters 2;states 1;", 3);
        Samples.fresh().faulty("prime 5;letters 2;states 1;prime 5;", 4, 27);
        Samples.fresh().reads("states 1;start 0 1;start 0 1;end 0 1;end 0 1;edge 0 a 0 1;edge 0 a 0 1;", 7);
    }

    @Says(promise = 5, terms = true, value = "Behind all (the length): 5 a STATE, a LETTER is told that there is not.")
    static void faultsBehindAll() {
        for (int n = 0; n < 4; n++) {
            String states = "states " + n + ";";
            Samples.fresh().faulty(states + "start " + n + " 0;", 5, 19);
            Samples.fresh().faulty(states + "end " + n + " 0;", 5, 17);
            Samples.fresh().faulty(states + "edge " + n + " a 0 0;", 5, 22);
            Samples.fresh().faulty(states + "edge 0 a " + n + " 0;", 5, 22);
            String more = "states " + (n + 1) + ";";
            Samples.fresh().reads(more + "start " + n + " 0;end " + n + " 0;edge " + n + " a " + n + " 0;", 4);
        }
        // 0 STATES, if they are not told; L 2, if it is not told
        Samples.fresh().faulty("start 0 1;", 5, 10).faulty("states 1;edge 0 c 0 1;", 5, 22);
        Samples.fresh().reads("states 1;edge 0 b 0 1;", 2);
        Samples.fresh().faulty("letters 1;states 1;edge 0 b 0 1;", 5, 32).reads("letters 1;states 1;edge 0 a 0 1;", 3);
        Samples.fresh().reads("letters 3;states 1;edge 0 c 0 1;", 3);
        // told behind it is in time; blanks at the end count
        Samples.fresh().reads("start 3 1;edge 3 c 3 1;states 4;letters 3;", 4);
        Samples.fresh().faulty("start 0 1;   ", 5, 13).faulty("start 0 1;" + " ".repeat(190), 5, 200);
        // one that was told again in a right line stays told
        Samples.fresh().faulty("states 1;start 1 1;start 0 1;", 5, 29);
    }

    @Says(promise = 4, terms = true, value = "A text that is taken tells P, L, THE TEACHER, in place of what there was;"
            + " THE TABLE is ANEW, THE WORD is empty, IMAGES are gone, SHELVES are nothing.")
    static void aTextThatIsTaken() {
        for (String text : new String[] {"", "  ", "prime 5;letters 2;states 2;"}) {
            Run run = Samples.rich().calls("keep(1)", "shelf(2, 2, 8)", "end(0)").read(text);
            run.anew().due("rule(0) " + (text.isBlank() ? 7 : 5), "rule(1) 2", "rule(2) " + (text.isBlank() ? 0 : 2));
            run.due("rule(11) 0", "rule(12) 0", "wipe() 0", "back(0) STATE", "back(1) STATE", "keep(0) 0", "fault() 0");
            run.due("kind(0, 1) NULL", "kind(1, 0) NULL", "kind(2, 0) NULL");
            run.due("start(0, 0) " + (text.isBlank() ? "BAD" : "0"));
        }
        Run run = Samples.rich().calls("end(0)").read("letters 3;states 1;start 0 6;end 0 1;edge 0 c 0 1;");
        run.due("rule(0) 7", "rule(1) 3", "rule(2) 1", "rule(4) 1", "start(0, 0) 6", "start(0, 1) BAD");
        // the word is empty, not only counted so
        run = Samples.rich().calls("end(0)").read("states 2;start 0 1;start 1 1;end 0 1;edge 1 a 0 2;").due("value(0) 1");
        run.due("letter(0) 1", "value(0) 2", "letter(1) 2", "value(0) 0", "wipe() 2", "value(0) 1");
        run = Samples.rich().calls("end(0)").read("letters 1;");
        // a shelf of old stands with cells of nothing, when it stands again
        run.due("shelf(0, 0, 2) 1", "kind(0, 1) EMPTY");
    }

    // ---- 2

    @Says(promise = 16, terms = true, value = "THE TABLE has PREFIXES and SUFFIXES, both WORDS, 0 on, by order.")
    static void prefixesAndSuffixesByOrder() {
        // they stand as they came, not by their numbers
        Run run = Samples.told(Samples.CROSSED).due("close() 1", "ask(1) 2", "close() 1", "ask(2) 3", "close() 1");
        run.due("prefix(0) 0", "prefix(1) 2", "prefix(2) 1", "prefix(3) NONE");
        Samples.fresh().calls("ask(2)", "ask(1)").due("suffix(0) 0", "suffix(1) 2", "suffix(2) 1", "suffix(3) NONE");
    }

    @Says(promise = 1, terms = true, value = "ANEW: no PREFIXES, of SUFFIXES the empty WORD alone, no ROUNDS, there is no"
            + " GUESS.")
    static void tableAnew() {
        Samples.fresh().anew().due("rule(9) 0", "cell(0, 0) BAD");
        Samples.rich().calls("turn()").anew().due("rule(9) 0", "cell(0, 0) BAD");
    }

    @Says(promise = 20, terms = true, value = "CANDIDATES: the empty WORD, if there are no PREFIXES; else PREFIX 0 and"
            + " LETTER 0 behind it, LETTER 1, and so on, then PREFIX 1, and so on.")
    static void orderOfCandidates() {
        // the empty word, a, b, aa come to a state of their own each: a, b are ahead of aa
        String text = "states 4;start 0 1;end 0 1;edge 0 a 1 1;edge 0 b 2 1;edge 1 a 3 1;edge 1 b 0 1;edge 2 b 1 1;"
                + "edge 3 b 2 1;";
        Run run = Samples.told(text).due("ask(14) 4", "close() 4", "prefix(0) 0", "prefix(1) 1", "prefix(2) 2",
                "prefix(3) 3");
        run.due("cell(4, 0) 0", "rule(8) 1");
        // letters in their order: c is ahead of what is behind a
        run = Samples.told("letters 3;states 4;start 0 1;end 0 1;edge 0 c 1 1;edge 1 c 0 1;edge 0 a 2 1;edge 2 b 0 1;"
                + "edge 2 a 3 1;edge 3 a 0 1;");
        run.due("ask(3) 2", "ask(2) 3", "ask(1) 4", "close() 4", "prefix(1) 1", "prefix(2) 3", "prefix(3) 4");
        // only the empty word is a candidate at first: without a value no other comes
        Samples.told("states 2;start 0 1;end 1 1;edge 0 a 1 1;").due("close() 0", "rule(5) 0", "rule(8) 1");
    }

    @Says(promise = 18, terms = true, value = "THE ROW of a WORD: VALUES by THE TEACHER of it with each SUFFIX behind"
            + " it.")
    static void rowsOfWords() {
        Run run = Samples.learnt().calls("ask(5)");
        run.due("cell(0, 0) 0", "cell(0, 1) 2", "cell(0, 2) 2", "cell(1, 0) 2", "cell(1, 2) 4", "cell(4, 2) 1");
    }

    @Says(promise = 19, terms = true, value = "A COMBINATION of ROWS: RESIDUES, one for each, by which they are"
            + " multiplied and summed (of none: all 0).")
    static void combinationOfNone() {
        // a row of 0 is one of none: it does not come
        Run run = Samples.told(Samples.COUNTS).due("rule(8) 1", "close() 0", "rule(5) 0", "rule(8) 1");
        run.due("ask(1) 2", "rule(8) 0", "close() 2", "rule(8) 1");
        // aa is -1 times the first and twice the second
        run.due("part(4, 0) 4", "part(4, 1) 2");
        Samples.told(Samples.ABA).calls("ask(9)", "close()").due("rule(5) 4", "part(4, 0) 0", "part(4, 1) 1",
                "part(5, 0) 0", "part(5, 3) 0", "part(11, 0) 0", "part(11, 3) 0");
    }

    @Says(promise = 20, terms = true, value = "To CLOSE: the first CANDIDATE whose ROW is no COMBINATION of those of all"
            + " PREFIXES comes behind PREFIXES; again, till there is none: it is CLOSED.")
    static void closedWhenNoneComes() {
        Run run = Samples.told(Samples.RING).due("rule(8) 1", "ask(1) 2", "rule(8) 1", "close() 0", "ask(2) 3");
        run.due("rule(8) 0", "close() 3", "rule(8) 1", "close() 0", "ask(3) 4", "rule(8) 0", "close() 1", "rule(8) 1");
        run.due("rule(5) 4", "prefix(3) 3", "ask(5) 6", "rule(8) 1", "close() 0");
    }

    @Says(promise = 21, terms = true, value = "GUESS of a TABLE that is CLOSED: a STATE for each PREFIX; START of STATE 0"
            + " is 1, of others 0; END: VALUE of the PREFIX by THE TEACHER; WEIGHTS of a STATE by a LETTER: the"
            + " COMBINATION that is THE ROW of its PREFIX with the LETTER behind it (there is just one).")
    static void guessByPrefixesAsTheyStand() {
        Run run = Samples.told(Samples.CROSSED).calls("close()", "ask(1)", "close()", "ask(2)").due("learn() NONE");
        run.due("rule(3) 3", "start(1, 0) 1", "start(1, 1) 0", "start(1, 2) 0", "start(1, 3) BAD");
        run.due("finish(1, 0) 1", "finish(1, 1) 0", "finish(1, 2) 1");
        int[] weights = {0, 0, 1, 0, 1, 0, 0, 0, 1, 0, 0, 0, 0, 0, 1, 0, 0, 3};
        for (int i = 0; i < weights.length; i++) {
            run.due("edge(1, " + i / 6 + ", " + i / 3 % 2 + ", " + i % 3 + ") " + weights[i]);
        }
        Samples.fresh().due("learn() NONE", "rule(3) 0");
        Samples.told(Samples.RING).calls("learn()", "learn()", "learn()").due("rule(3) 4", "start(1, 0) 1", "start(1, 3) 0",
                "finish(1, 2) 1", "edge(1, 3, 0, 0) 1", "edge(1, 3, 0, 3) 0");
    }

    @Says(promise = 22, terms = true, value = "COUNTER: the WORD of least NUMBER whose VALUES by THE TEACHER and THE GUESS"
            + " are not the same.")
    static void counterOfLeastNumber() {
        // the empty word, a suffix from the first, never differs
        Samples.told("states 1;start 0 1;end 0 1;").due("learn() NONE", "counter() NONE");
        // ab and ba, a and b, b and aa
        Samples.told("states 4;start 0 1;edge 0 a 1 1;edge 0 b 2 1;edge 1 b 3 1;edge 2 a 3 1;end 3 1;")
                .due("learn() 4", "counter() 4");
        Samples.told("states 2;start 0 1;end 1 1;edge 0 b 1 1;edge 0 a 1 1;").due("learn() 1", "counter() 1");
        Samples.told("states 3;start 0 1;end 2 1;edge 0 b 2 1;edge 0 a 1 1;edge 1 a 2 1;").due("learn() 2", "counter() 2");
        // as long as may be: four states against three that have all values up to five letters
        Samples.told(Samples.RING).due("ask(2) 3", "learn() 6", "counter() 6", "rule(3) 3", "rule(6) 7");
        Samples.told(Samples.RING.replace("letters 1", "letters 3").replace(" a ", " c ")).due("ask(12) 3", "learn() 1092",
                "counter() 1092", "suffix(6) 1092", "suffix(7) NONE", "learn() NONE", "counter() NONE");
    }

    @Says(promise = 23, terms = true, value = "ENDINGS of a WORD: what is left of it when 0 on of its first LETTERS, at"
            + " last all, are left out; they come behind SUFFIXES, the shortest first, but those that are there.")
    static void endingsOfWords() {
        Samples.fresh().due("ask(0) 1", "rule(6) 1", "suffix(1) NONE");
        Run run = Samples.fresh().due("ask(5) 3", "suffix(1) 1", "suffix(2) 5", "ask(9) 4", "suffix(3) 9", "ask(9) 4");
        // abab, of which the word itself and b, ab, bab are new
        run.due("ask(20) 8", "suffix(4) 2", "suffix(5) 4", "suffix(6) 12", "suffix(7) 20", "suffix(8) NONE");
        run.due("ask(1) 8", "ask(0) 8", "ask(12) 8");
    }

    @Says(promise = 24, terms = true, value = "THE LEAST: BASIS: WORDS, by NUMBER, each whose VALUES by THE TEACHER with"
            + " any WORD behind it are no COMBINATION of those of the lesser ones of BASIS.")
    static void basisByNumber() {
        // of no values: none, also if there are states
        Samples.fresh().due("basis(0) NONE", "rule(4) 0");
        Samples.told("states 4;start 0 1;end 1 1;").due("basis(0) NONE", "rule(4) 0");
        Samples.told("states 1;start 0 1;end 0 1;").due("basis(0) 0", "basis(1) NONE", "rule(4) 1");
        Samples.told(Samples.RING).due("basis(0) 0", "basis(3) 3", "basis(4) NONE", "rule(4) 4");
        // by number, whatever the table has
        Run run = Samples.told(Samples.CROSSED).calls("close()", "ask(1)", "close()", "ask(2)", "close()");
        run.due("prefix(1) 2", "basis(0) 0", "basis(1) 1", "basis(2) 2", "basis(3) NONE");
        // what tells them apart may be three letters long
        Samples.told(Samples.ABA).due("basis(1) 1", "basis(2) 4", "basis(3) 9", "basis(4) NONE");
    }

    @Says(promise = 32, terms = true, value = "A STATE for each of BASIS; START, END, WEIGHTS as of a GUESS, but by any"
            + " WORD behind it in place of SUFFIXES.")
    static void statesOfTheLeast() {
        Run run = Samples.told(Samples.CROSSED).due("rule(6) 1", "rule(4) 3", "start(2, 0) 1", "start(2, 1) 0");
        run.due("start(2, 2) 0", "start(2, 3) BAD", "finish(2, 0) 1", "finish(2, 1) 1", "finish(2, 2) 0");
        int[] weights = {0, 1, 0, 0, 0, 1, 0, 1, 0, 0, 3, 0, 0, 1, 0, 0, 0, 0};
        for (int i = 0; i < weights.length; i++) {
            run.due("edge(2, " + i / 6 + ", " + i / 3 % 2 + ", " + i % 3 + ") " + weights[i]);
        }
        run.due("rule(5) 0", "rule(6) 1", "rule(3) NONE");
        Samples.fresh().due("rule(4) 0", "start(2, 0) BAD", "value(2) 0");
    }

    @Says(promise = 12, terms = true, value = "MACHINES m: 0 THE TEACHER, 1 THE GUESS (STATE, if there is none), 2 THE"
            + " LEAST.")
    static void machinesFrom0To2() {
        Run run = Samples.told("states 4;start 0 2;end 0 1;").due("value(-1) BAD", "value(0) 2", "value(1) STATE");
        run.due("value(2) 2", "value(3) BAD", "start(0, 0) 2", "start(2, 0) 1", "start(2, 1) BAD", "start(0, 3) 0");
        run.due("learn() NONE", "value(1) 2", "start(1, 0) 1", "start(1, 1) BAD", "turn() 4", "value(1) STATE");
    }

    @Says(promise = 30, terms = true, value = "CHANGES of THE TEACHER, as they are told: THE TABLE is ANEW behind them"
            + " (also if all stays as it is).")
    static void changesThatChangeNothing() {
        String[] changes = {"begins(0, 1) 1", "ends(1, 1) 1", "leads(0, 0, 1, 2) 2", "scale(1) 2", "take(2, 0, 0) 2",
            "join(1) 2"};
        for (String change : changes) {
            Run run = Samples.fresh().calls("keep(1)", "grow()", "grow()", "begins(0, 1)", "ends(1, 1)",
                    "leads(0, 0, 1, 2)", "shelf(2, 0, 1)", "lay(2, 0, 0)", "learn()", "learn()", "ask(6)", "keep(0)");
            run.due("rule(5) 2", "rule(7) 2", change, "differ(0) NONE", "rule(2) 2").anew();
        }
        // without states nothing is turned, scaled, shrunk, drawn: it is a change
        for (String change : new String[] {"turn() 0", "scale(3) 0", "shrink() 0", "draw(1, 0) 1"}) {
            Samples.fresh().calls("learn()", "ask(6)").due("rule(7) 1", "rule(6) 3", change).anew();
        }
        // what is least already
        Run run = Samples.told("states 1;start 0 1;end 0 3;").calls("learn()").due("shrink() 1").anew();
        run.due("start(0, 0) 1", "finish(0, 0) 3");
    }

    // ---- 3

    @Says(promise = 38, terms = true, value = "SHELVES 0 to 2 are rows of TOLD (lane 0), MADE (1), ANY (2), of 0 to 8"
            + " CELLS, each a MACHINE or nothing (at first), or nothing (at first).")
    static void shelvesLanesCells() {
        for (int k = 0; k < 3; k++) {
            for (int lane = 0; lane < 3; lane++) {
                Run run = Samples.fresh().due("kind(" + k + ", 0) NULL", "shelf(" + k + ", " + lane + ", 0) 1",
                        "rule(12) 1", "kind(" + k + ", 0) INDEX", "shelf(" + k + ", " + lane + ", 8) 1", "rule(12) 1");
                run.due("kind(" + k + ", 0) EMPTY", "kind(" + k + ", 7) EMPTY", "kind(" + k + ", 8) INDEX",
                        "kind(" + k + ", -1) INDEX");
                run.due("shelf(" + k + ", " + lane + ", 9) BAD", "kind(" + k + ", 7) EMPTY");
                run.due("lay(" + k + ", 7, 2) " + (lane == 0 ? "STORE" : "1"));
                run.due("lay(" + k + ", 7, 0) " + (lane == 1 ? "STORE" : "1"), "kind(" + k + ", 7) " + lane % 2);
                run.due("kind(" + k + ", 6) EMPTY");
            }
        }
        Samples.fresh().due("shelf(-1, 0, 0) BAD", "shelf(3, 0, 0) BAD", "shelf(0, -1, 0) BAD", "shelf(0, 3, 0) BAD");
    }

    @Says(promise = 39, terms = true, value = "A copy of THE TEACHER is TOLD, one of THE GUESS, THE LEAST is MADE.")
    static void kindsOfCopies() {
        Run run = Samples.learnt().due("shelf(2, 2, 3) 1", "lay(2, 0, 0) 1", "lay(2, 1, 1) 1", "lay(2, 2, 2) 1");
        run.due("kind(2, 0) 0", "kind(2, 1) 1", "kind(2, 2) 1");
        // whatever it was made of: a teacher that became the least, or came from a cell, is told
        run.due("shrink() 2", "lay(2, 1, 0) 1", "kind(2, 1) 0", "take(2, 2, 2) 2", "lay(2, 2, 0) 1", "kind(2, 2) 0");
    }

    @Says(promise = 40, terms = true, value = "A FAULT is what the machine below finds, the first by:")
    static void theFirstFaultOfAShelf() {
        // NULL ahead of CAST, INDEX, STORE
        Twins.refuse(Samples::rich, "take(2, 0, 9) NULL", "lay(2, 9, 0) NULL", "kind(2, 9) NULL");
        // CAST ahead of INDEX, EMPTY
        Twins.refuse(Samples::rich, "take(0, 1, 9) CAST", "take(0, 1, 0) CAST", "take(1, 0, -1) CAST");
        // INDEX ahead of STORE
        Twins.refuse(Samples::rich, "lay(0, 2, 2) INDEX", "lay(1, -1, 0) INDEX", "lay(0, 1, 2) STORE");
        // BAD ahead of SIZE
        Twins.refuse(Samples::rich, "shelf(3, 0, -1) BAD", "shelf(0, 3, -1) BAD", "shelf(0, 0, -1) SIZE");
    }

    @Says(promise = 41, terms = true, value = "1 NULL (the SHELF is nothing),")
    static void faultNull() {
        Run run = Samples.fresh().due("lay(1, 0, 0) NULL", "take(1, 2, 0) NULL", "kind(1, 0) NULL", "rule(12) 0");
        run.due("shelf(1, 2, 0) 1", "lay(1, 0, 0) INDEX", "take(1, 2, 0) INDEX", "kind(1, 0) INDEX");
        run.due("kind(0, 0) NULL", "kind(2, 0) NULL");
    }

    @Says(promise = 40, terms = true, value = "2 CAST (taken as of a lane, in which it is not: TOLD and MADE are ANY,"
            + " too),")
    static void faultCast() {
        Run run = Samples.learnt();
        String[][] due = {{"2", "CAST", "2"}, {"CAST", "2", "2"}, {"CAST", "CAST", "2"}};
        for (int lane = 0; lane < 3; lane++) {
            run.calls("shelf(" + lane + ", " + lane + ", 1)", "lay(" + lane + ", 0, " + (lane == 1 ? 1 : 0) + ")");
        }
        for (int k = 0; k < 3; k++) {
            for (int lane = 0; lane < 3; lane++) {
                run.due("take(" + k + ", " + lane + ", 0) " + due[k][lane]);
            }
        }
    }

    @Says(promise = 39, terms = true, value = "3 INDEX,")
    static void faultIndex() {
        for (int n = 0; n <= 8; n++) {
            Run run = Samples.fresh().calls("shelf(2, 2, " + n + ")");
            for (int i : new int[] {-1, n, n + 1, Integer.MIN_VALUE, Integer.MAX_VALUE}) {
                run.due("lay(2, " + i + ", 0) INDEX", "take(2, 2, " + i + ") INDEX", "kind(2, " + i + ") INDEX");
            }
            if (n > 0) {
                run.due("lay(2, 0, 0) 1", "lay(2, " + (n - 1) + ", 0) 1", "kind(2, " + (n - 1) + ") 0");
                run.due("take(2, 2, " + (n - 1) + ") 0", "take(2, 2, 0) 0");
            }
        }
    }

    @Says(promise = 39, terms = true, value = "4 STORE (one of the other kind into TOLD, MADE),")
    static void faultStore() {
        String[][] due = {{"1", "STORE", "STORE"}, {"STORE", "1", "1"}, {"1", "1", "1"}};
        for (int lane = 0; lane < 3; lane++) {
            Run run = Samples.learnt().calls("shelf(0, " + lane + ", 3)");
            for (int m = 0; m < 3; m++) {
                run.due("lay(0, " + m + ", " + m + ") " + due[lane][m]);
                run.due("kind(0, " + m + ") " + (due[lane][m].equals("1") ? Math.min(m, 1) : "EMPTY"));
            }
        }
    }

    @Says(promise = 41, terms = true, value = "5 EMPTY (the CELL is nothing),")
    static void faultEmpty() {
        Run run = Samples.fresh().due("shelf(0, 0, 2) 1", "kind(0, 0) EMPTY", "take(0, 0, 0) EMPTY", "take(0, 2, 1) EMPTY");
        // a machine without states is no nothing
        run.due("lay(0, 0, 0) 1", "kind(0, 0) 0", "take(0, 0, 0) 0", "kind(0, 1) EMPTY");
        run.due("shelf(0, 0, 2) 1", "kind(0, 0) EMPTY", "take(0, 0, 0) EMPTY");
    }

    @Says(promise = 38, terms = true, value = "6 SIZE (below 0).")
    static void faultSize() {
        Run run = Samples.fresh().due("shelf(0, 0, -1) SIZE", "shelf(2, 2, " + Integer.MIN_VALUE + ") SIZE", "rule(12) 0");
        run.due("kind(0, 0) NULL", "shelf(0, 0, 0) 1", "rule(12) 1", "shelf(0, 0, -1) SIZE", "kind(0, 0) INDEX");
    }
}
