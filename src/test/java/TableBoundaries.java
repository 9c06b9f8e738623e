/** Promises 16 to 24: the table. */
final class TableBoundaries {
    private static final int LEAST = Integer.MIN_VALUE, GREATEST = Integer.MAX_VALUE;

    private TableBoundaries() {
    }

    /** Four prefixes, seven suffixes: as many prefixes as may be. */
    private static Run ring() {
        return Samples.told(Samples.RING).calls("ask(2)", "learn()", "learn()");
    }

    // ---- promise 16

    @Says(promise = 16, value = "The NUMBER of PREFIX i.")
    static void numbersOfPrefixes() {
        ring().due("prefix(0) 0", "prefix(1) 1", "prefix(2) 2", "prefix(3) 3");
        // as long as may be: three letters of the last
        Samples.told("letters 3;states 4;start 0 1;edge 0 c 1 1;edge 1 c 2 1;edge 2 c 3 1;end 3 1;").calls("learn()", "close()")
                .due("prefix(0) 0", "prefix(1) 3", "prefix(2) 12", "prefix(3) 39", "prefix(4) NONE");
    }

    @Says(promise = 16, value = "BAD: i below 0;")
    static void noPrefixBelow0() {
        Twins.refuse(Samples::rich, "prefix(-1) BAD", "prefix(" + LEAST + ") BAD");
        Samples.fresh().due("prefix(-1) BAD", "prefix(0) NONE");
    }

    @Says(promise = 16, value = "NONE: there are not so many.")
    static void notSoManyPrefixes() {
        Samples.fresh().due("prefix(0) NONE", "prefix(" + GREATEST + ") NONE");
        Twins.refuse(Samples::rich, "prefix(2) NONE", "prefix(3) NONE", "prefix(4) NONE", "prefix(" + GREATEST + ") NONE");
        ring().due("prefix(3) 3", "prefix(4) NONE");
        Samples.told(Samples.COUNTS).calls("ask(1)").due("prefix(0) NONE", "close() 2", "prefix(1) 1", "prefix(2) NONE");
        // those of an earlier teacher are gone
        Samples.learnt().due("prefix(1) 1", "ends(0, 1) 0", "prefix(0) NONE", "close() 1", "prefix(0) 0", "prefix(1) NONE");
    }

    // ---- promise 17

    @Says(promise = 17, value = "The NUMBER of SUFFIX i.")
    static void numbersOfSuffixes() {
        Samples.fresh().due("suffix(0) 0");
        Run run = Samples.told("letters 3;").due("ask(363) 6", "suffix(0) 0", "suffix(1) 3", "suffix(5) 363");
        run.due("ask(121) 11", "suffix(6) 1", "suffix(10) 121");
        Samples.fullOfSuffixes().due("suffix(23) 261");
    }

    @Says(promise = 17, value = "BAD: i below 0;")
    static void noSuffixBelow0() {
        Twins.refuse(Samples::rich, "suffix(-1) BAD", "suffix(" + LEAST + ") BAD");
    }

    @Says(promise = 17, value = "NONE: there are not so many.")
    static void notSoManySuffixes() {
        Samples.fresh().due("suffix(1) NONE", "suffix(" + GREATEST + ") NONE");
        Twins.refuse(Samples::rich, "suffix(3) NONE", "suffix(4) NONE", "suffix(" + GREATEST + ") NONE");
        Samples.rich().due("suffix(2) 5");
        Samples.fullOfSuffixes().due("suffix(23) 261", "suffix(24) NONE", "suffix(25) NONE", "suffix(48) NONE",
                "turn() 0", "suffix(0) 0", "suffix(1) NONE");
    }

    // ---- promise 18

    @Says(promise = 18, value = "VALUE by THE TEACHER of what ROW r, COLUMN c of THE TABLE tells: rows are PREFIXES, then,"
            + " PREFIX by PREFIX, these with each LETTER behind; columns SUFFIXES.")
    static void cellsOfTheFirstAndTheLast() {
        // rows: empty, b, a, then a, b, ba, bb, aa, ab; columns: empty, a, b
        Run run = Samples.told(Samples.CROSSED).calls("close()", "ask(1)", "close()", "ask(2)", "close()");
        int[][] due = {{1, 1, 0}, {0, 1, 0}, {1, 1, 3}, {1, 1, 3}, {0, 1, 0}, {1, 1, 3}, {0, 0, 0}, {1, 1, 3}, {3, 3, 2}};
        for (int r = 0; r < 9; r++) {
            for (int c = 0; c < 3; c++) {
                run.due("cell(" + r + ", " + c + ") " + due[r][c]);
            }
        }
        // the longest word of all: three letters, one behind, six of a suffix: a to the 10
        ring().due("cell(7, 6) 1", "cell(6, 6) 0", "cell(7, 5) 0", "cell(7, 2) 1", "cell(0, 0) 0", "cell(3, 3) 1");
    }

    @Says(promise = 18, value = "BAD.")
    static void cellOfNoRowOrColumn() {
        Twins.refuse(Samples::rich, "cell(-1, 0) BAD", "cell(6, 0) BAD", "cell(0, -1) BAD", "cell(0, 3) BAD",
                "cell(6, 3) BAD");
        for (int off : new int[] {LEAST, GREATEST}) {
            Samples.rich().due("cell(" + off + ", 0) BAD", "cell(0, " + off + ") BAD");
        }
        Samples.rich().due("cell(5, 2) 4");
        // no prefixes, no rows
        Samples.fresh().due("cell(0, 0) BAD", "ask(62) 6", "cell(0, 0) BAD");
        // as many rows as there are letters
        for (int l = 1; l <= 3; l++) {
            Samples.told("letters " + l + ";states 1;start 0 1;end 0 1;").calls("close()").due("cell(" + l + ", 0) 0",
                    "cell(" + (l + 1) + ", 0) BAD", "cell(0, 0) 1", "cell(0, 1) BAD");
        }
        ring().due("cell(7, 6) 1", "cell(8, 6) BAD", "cell(7, 7) BAD");
    }

    // ---- promise 19

    @Says(promise = 19, value = "ROW r as a COMBINATION of those of PREFIXES: the RESIDUE of PREFIX j.")
    static void partsOfTheFirstAndTheLast() {
        int[][] due = {{1, 0}, {0, 1}, {0, 1}, {1, 0}, {4, 2}, {0, 1}};
        Run run = Samples.rich();
        for (int r = 0; r < 6; r++) {
            run.due("part(" + r + ", 0) " + due[r][0], "part(" + r + ", 1) " + due[r][1]);
        }
        // the last row of four is the first prefix again
        ring().due("part(7, 0) 1", "part(7, 1) 0", "part(7, 2) 0", "part(7, 3) 0", "part(3, 3) 1", "part(3, 0) 0");
        // of P less 1
        Samples.told("prime 97;states 1;start 0 1;end 0 1;edge 0 b 0 96;").calls("close()").due("part(0, 0) 1",
                "part(1, 0) 0", "part(2, 0) 96");
    }

    @Says(promise = 19, value = "BAD: r (as cell()), j;")
    static void partOfNoRowOrPrefix() {
        Twins.refuse(Samples::rich, "part(-1, 0) BAD", "part(6, 0) BAD", "part(0, -1) BAD", "part(0, 2) BAD",
                "part(6, 2) BAD");
        for (int off : new int[] {LEAST, GREATEST}) {
            Samples.rich().due("part(" + off + ", 0) BAD", "part(0, " + off + ") BAD");
        }
        Samples.fresh().due("part(0, 0) BAD", "ask(62) 6", "part(0, 0) BAD");
        ring().due("part(7, 3) 0", "part(8, 3) BAD", "part(7, 4) BAD");
        // BAD also of a row that is no combination
        Samples.told(Samples.CROSSED).calls("close()", "ask(1)").due("part(2, 0) NONE", "part(2, 1) BAD", "part(2, -1) BAD");
    }

    @Says(promise = 19, value = "NONE: it is no COMBINATION.")
    static void rowsThatAreNoCombination() {
        Run run = Samples.told(Samples.CROSSED).calls("close()").due("part(0, 0) 1", "part(1, 0) 1", "part(2, 0) 0");
        // by one suffix more b is none, by the next a is none
        run.due("ask(1) 2", "part(0, 0) 1", "part(1, 0) 1", "part(2, 0) NONE", "close() 1", "part(3, 1) 1", "part(2, 1) 0");
        run.due("ask(2) 3", "part(2, 0) NONE", "part(2, 1) NONE", "part(3, 0) 0", "part(1, 1) 1", "close() 1",
                "part(3, 2) 1", "part(8, 2) 3");
    }

    // ---- promise 20

    @Says(promise = 20, value = "To CLOSE: how many PREFIXES came.")
    static void noneToFourPrefixesCome() {
        Samples.fresh().due("close() 0", "close() 0", "rule(7) 0", "rule(3) NONE");
        Samples.told(Samples.COUNTS).due("close() 0", "rule(5) 0", "ask(1) 2", "close() 2", "close() 0", "rule(5) 2",
                "rule(7) 0", "rule(3) NONE");
        // none, three, one; four at once
        Samples.told(Samples.RING).due("close() 0", "ask(2) 3", "close() 3", "ask(3) 4", "close() 1", "ask(5) 6", "close() 0");
        Samples.told(Samples.RING).due("ask(5) 6", "close() 4", "rule(5) 4", "close() 0");
        Samples.told(Samples.ABA).due("ask(9) 4", "close() 4", "prefix(3) 9");
        // a guess that there is stays as it was
        Samples.told(Samples.COUNTS).due("learn() 1", "rule(3) 0", "close() 2", "rule(3) 0", "rule(7) 1", "counter() 1");
    }

    // ---- promise 21

    @Says(promise = 21, value = "A ROUND (counted, whatever it brings):")
    static void roundsAreCounted() {
        Samples.fresh().due("rule(7) 0", "learn() NONE", "rule(7) 1", "learn() NONE", "rule(7) 2", "close() 0", "counter() NONE",
                "ask(1) 2", "rule(7) 2");
        Samples.told(Samples.RING).due("learn() 2", "rule(7) 1", "learn() 6", "rule(7) 2", "learn() NONE", "rule(7) 3",
                "learn() NONE", "rule(7) 4");
        // counted from each image, from each change
        Samples.learnt().due("keep(0) 0", "learn() NONE", "rule(7) 3", "back(0) 2", "rule(7) 2", "turn() 2", "rule(7) 0");
    }

    @Says(promise = 21, value = "to CLOSE, THE GUESS is made, and if there is a COUNTER its ENDINGS come behind SUFFIXES:")
    static void aRoundWithACounterAndOneWithout() {
        Run run = Samples.told(Samples.ABA).due("learn() 9", "rule(5) 0", "rule(3) 0", "rule(6) 4", "suffix(0) 0");
        run.due("suffix(1) 1", "suffix(2) 5", "suffix(3) 9", "rule(8) 0", "learn() NONE", "rule(5) 4", "rule(3) 4");
        // none comes where there is no counter
        run.due("rule(6) 4", "rule(8) 1", "learn() NONE", "rule(6) 4", "rule(5) 4");
        // those that are there do not come again
        Samples.told(Samples.ABA).due("ask(1) 2", "learn() 9", "rule(6) 4", "suffix(1) 1", "suffix(2) 5", "suffix(3) 9");
        // 24 bound what may be asked, not what is learnt
        run = Samples.suffixesThatTellNothing().due("rule(6) 24", "close() 0", "learn() 22", "rule(6) 27", "suffix(24) 1",
                "suffix(25) 4", "suffix(26) 22");
        run.due("learn() NONE", "rule(3) 4", "rule(6) 27", "value(1) 0");
        // six letters, one more than may be asked
        Samples.told(Samples.RING).due("ask(2) 3", "learn() 6", "rule(6) 7", "suffix(6) 6", "learn() NONE", "rule(6) 7");
    }

    @Says(promise = 21, value = "the NUMBER of the COUNTER, NONE: there is none.")
    static void learnTellsTheCounterOrNone() {
        Samples.fresh().due("learn() NONE", "rule(3) 0");
        Samples.told(Samples.COUNTS).due("learn() 1", "counter() 1", "learn() NONE", "counter() NONE");
        Samples.told("states 4;start 0 1;start 1 3;end 2 1;end 3 1;").due("learn() NONE", "rule(3) 0");
        Samples.told("states 1;start 0 1;end 0 1;edge 0 b 0 3;").due("learn() NONE", "rule(3) 1", "edge(1, 0, 1, 0) 3");
        // the first and the last word of three letters
        Samples.told("states 4;start 0 1;edge 0 a 1 1;edge 1 a 2 1;edge 2 a 3 1;end 3 1;").due("learn() 7");
        Samples.told("states 4;start 0 1;edge 0 b 1 1;edge 1 b 2 1;edge 2 b 3 1;end 3 1;").due("learn() 14");
    }

    // ---- promise 22

    @Says(promise = 22, value = "The NUMBER of the COUNTER.")
    static void counterStaysTillTheNextRound() {
        Samples.told(Samples.ABA).due("learn() 9", "counter() 9", "close() 4", "counter() 9", "ask(62) 9", "counter() 9",
                "rule(7) 1", "rule(6) 9");
        // it is asked for, not learnt
        Samples.told(Samples.COUNTS).due("learn() 1", "rule(6) 2", "counter() 1", "rule(6) 2", "rule(7) 1", "rule(3) 0");
    }

    @Says(promise = 22, value = "STATE: there is no GUESS;")
    static void noCounterWithoutAGuess() {
        Twins.refuse(Samples::richWithoutGuess, "counter() STATE");
        Samples.fresh().due("counter() STATE", "close() 0", "counter() STATE", "learn() NONE", "counter() NONE", "grow() 1",
                "counter() STATE");
    }

    @Says(promise = 22, value = "NONE: there is none.")
    static void noCounterOfTheSameValues() {
        Twins.refuse(Samples::rich, "counter() NONE");
        Samples.fresh().due("learn() NONE", "counter() NONE");
        ring().due("counter() NONE");
        // other states, the same values
        Samples.told("states 4;start 0 1;start 1 1;end 0 1;end 1 1;").due("learn() NONE", "rule(3) 1", "counter() NONE");
    }

    // ---- promise 23

    @Says(promise = 23, value = "The WORD of NUMBER n (5 LETTERS at most): its ENDINGS come behind SUFFIXES: how many there"
            + " are.")
    static void wordsOfNoneTo5Letters() {
        Samples.fresh().due("ask(0) 1", "rule(6) 1", "ask(1) 2", "ask(2) 3", "ask(3) 4", "ask(3) 4");
        Samples.told("letters 1;").due("ask(5) 6", "suffix(5) 5", "ask(4) 6");
        Samples.told("").due("ask(62) 6", "suffix(5) 62", "ask(31) 11", "suffix(10) 31");
        Samples.told("letters 3;").due("ask(363) 6", "suffix(5) 363", "ask(121) 11", "suffix(10) 121");
        // a table that there is, a guess stay
        Samples.learnt().due("ask(6) 4", "rule(5) 2", "rule(3) 2", "rule(7) 2", "rule(8) 1");
    }

    @Says(promise = 23, value = "BAD;")
    static void wordsOfMoreLettersAreBad() {
        Twins.refuse(Samples::rich, "ask(-1) BAD", "ask(63) BAD", "ask(64) BAD", "ask(" + LEAST + ") BAD",
                "ask(" + GREATEST + ") BAD");
        Samples.told("letters 1;").due("ask(6) BAD", "rule(6) 1", "ask(5) 6");
        Samples.told("letters 3;").due("ask(364) BAD", "ask(365) BAD", "rule(6) 1", "ask(363) 6");
        Twins.refuse(Samples::fullOfSuffixes, "ask(364) BAD", "ask(-1) BAD");
    }

    @Says(promise = 23, value = "FULL: there would be more than 24.")
    static void moreThan24SuffixesAreTooMany() {
        Samples.fullOfSuffixes().due("rule(6) 24", "ask(0) 24", "ask(363) 24", "ask(261) 24", "ask(1) 24");
        Twins.refuse(Samples::fullOfSuffixes, "ask(10) FULL", "ask(360) FULL", "ask(362) FULL");
        // of 22 two may come, not three, not four; of 23 one, not two: if not all, then none of them comes
        Run run = Samples.told("letters 3;").calls("ask(363)", "ask(242)", "ask(121)", "ask(167)").due("rule(6) 20");
        run.due("ask(9) 21", "ask(18) 22", "ask(358) FULL", "ask(115) FULL", "rule(6) 22", "suffix(22) NONE", "ask(34) 24");
        run.due("suffix(22) 7", "suffix(23) 34", "ask(10) FULL", "rule(6) 24", "ask(7) 24");
        run = Samples.told("letters 3;").calls("ask(363)", "ask(242)", "ask(121)", "ask(167)", "ask(9)", "ask(18)", "ask(99)");
        run.due("rule(6) 23", "ask(34) FULL", "rule(6) 23", "suffix(23) NONE", "ask(10) 24", "ask(7) FULL", "ask(10) 24");
        Samples.suffixesThatTellNothing().due("ask(1) FULL", "learn() 22", "rule(6) 27", "ask(2) FULL", "ask(6) FULL");
    }

    // ---- promise 24

    @Says(promise = 24, value = "The NUMBER of the i-th (0 on) of BASIS.")
    static void wordsOfBasis() {
        Samples.told(Samples.ABA).due("basis(0) 0", "basis(1) 1", "basis(2) 4", "basis(3) 9");
        Samples.told("letters 3;states 4;start 0 1;edge 0 c 1 1;edge 1 c 2 1;edge 2 c 3 1;end 3 1;").due("basis(0) 0",
                "basis(1) 3", "basis(2) 12", "basis(3) 39");
        // it is the teacher's, whatever comes of the table
        Samples.told(Samples.COUNTS).due("basis(1) 1", "rule(5) 0", "learn() 1", "basis(1) 1", "turn() 2", "basis(1) 1",
                "scale(0) 2", "basis(0) NONE");
    }

    @Says(promise = 24, value = "BAD: i below 0;")
    static void noneOfBasisBelow0() {
        Twins.refuse(Samples::rich, "basis(-1) BAD", "basis(" + LEAST + ") BAD");
        Samples.fresh().due("basis(-1) BAD");
    }

    @Says(promise = 24, value = "NONE: there are not so many.")
    static void notSoManyOfBasis() {
        Samples.fresh().due("basis(0) NONE", "basis(" + GREATEST + ") NONE");
        Twins.refuse(Samples::rich, "basis(2) NONE", "basis(3) NONE", "basis(4) NONE", "basis(" + GREATEST + ") NONE");
        Samples.told(Samples.ABA).due("basis(3) 9", "basis(4) NONE", "ends(3, 0) 6", "basis(0) NONE");
        Samples.told("states 4;start 0 1;end 0 1;").due("basis(0) 0", "basis(1) NONE");
    }
}
