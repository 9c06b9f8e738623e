/** Objects that tests begin with; each call makes a new one. */
final class Samples {
    /** Twice the a of a word, modulo 5: two states that are both needed. */
    static final String COUNTS = "prime 5;states 2;start 0 1;end 1 1;edge 0 a 0 1;edge 0 b 0 1;edge 1 a 1 1;"
            + "edge 1 b 1 1;edge 0 a 1 2;";

    /** Words of some value: aba alone. */
    static final String ABA = "states 4;start 0 1;edge 0 a 1 1;edge 1 b 2 1;edge 2 a 3 1;end 3 6;";

    /** Of one letter: 0 0 1 0, again and again; no three states have these values. */
    static final String RING = "letters 1;states 4;start 0 1;edge 0 a 1 1;edge 1 a 2 1;edge 2 a 3 1;"
            + "edge 3 a 0 1;end 2 1;";

    /** By the suffixes that come as a, then b, its prefixes come as the empty word, b, a. */
    static final String CROSSED = "states 3;start 0 1;end 0 1;end 1 1;edge 0 a 1 1;edge 0 b 2 1;edge 1 a 1 1;"
            + "edge 2 a 1 1;edge 1 b 1 3;";

    private Samples() {
    }

    static Run fresh() {
        return new Run();
    }

    static Run told(String text) {
        return new Run().read(text);
    }

    /** COUNTS by hand, in few calls. */
    static Run counts() {
        return told("prime 5;").calls("grow()", "grow()", "begins(0, 1)", "ends(1, 1)", "leads(0, 0, 0, 1)",
                "leads(0, 1, 0, 1)", "leads(1, 0, 1, 1)", "leads(1, 1, 1, 1)", "leads(0, 0, 1, 2)");
    }

    /** COUNTS, a guess of two states, two prefixes, two suffixes, two rounds. */
    static Run learnt() {
        return counts().calls("learn()", "learn()");
    }

    /**
     * Some of all: COUNTS learnt, a suffix more, THE WORD aba, an IMAGE 0 of the first round, a SHELF
     * of TOLD and one of MADE with cells of nothing too, a latest FAULT, a text on THE TAPE.
     */
    static Run rich() {
        return counts().calls("shelf(0, 0, 2)", "lay(0, 1, 0)", "shelf(1, 1, 3)", "learn()", "keep(0)", "learn()",
                "lay(1, 0, 1)", "lay(1, 2, 2)", "ask(5)").word("aba").faulty("prime 4;", 3, 6)
                .feeds("prime 3;states 1;start 0 2;");
    }

    /** As rich, but THE TEACHER is a new one: there is no GUESS. */
    static Run richWithoutGuess() {
        return rich().calls("turn()", "ask(5)", "close()");
    }

    /** As rich, but THE TAPE, THE WORD, THE TEACHER's STATES are as many as may be. */
    static Run fullOfAll() {
        return rich().calls("grow()", "grow()", "learn()").times(9, "letter(1)").times(173, "feed(32)");
    }

    /** Of three letters and no values, 24 suffixes: those of ccccc, bbbbb, aaaaa, and more. */
    static Run fullOfSuffixes() {
        return told("letters 3;").calls("ask(363)", "ask(242)", "ask(121)", "ask(167)", "ask(261)");
    }

    /** Of the words of three letters baa alone has a value; none of 24 suffixes is an ending of it. */
    static Run suffixesThatTellNothing() {
        return told("letters 3;states 4;start 0 1;end 3 1;edge 0 b 1 1;edge 1 a 2 1;edge 2 a 3 1;").calls("ask(363)",
                "ask(242)", "ask(333)", "ask(272)", "ask(179)", "ask(341)", "ask(260)");
    }
}
