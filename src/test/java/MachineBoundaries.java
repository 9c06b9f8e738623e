/** Promises 7 to 15: machines, words. */
final class MachineBoundaries {
    private static final int LEAST = Integer.MIN_VALUE, GREATEST = Integer.MAX_VALUE;

    /** 1 for the words of no b, 2 to the c of a word, modulo 7, of three letters. */
    private static final String POWERS = "letters 3;states 1;start 0 1;end 0 1;edge 0 a 0 1;edge 0 c 0 2;";

    /** Of P 97 and three letters, 96 for each word. */
    private static final String GREATEST_VALUES = "prime 97;letters 3;states 1;start 0 96;end 0 1;edge 0 a 0 1;"
            + "edge 0 b 0 1;edge 0 c 0 1;";

    private MachineBoundaries() {
    }

    private static Run fourStates() {
        return Samples.told("prime 97;letters 3;states 4;start 0 96;start 3 2;end 0 3;end 3 95;edge 0 a 0 4;"
                + "edge 3 c 3 94;edge 0 c 3 5;edge 3 a 0 93;");
    }

    // ---- promise 7

    @Says(promise = 7, value = "START of a STATE.")
    static void startsOfTheFirstAndTheLast() {
        fourStates().due("start(0, 0) 96", "start(0, 1) 0", "start(0, 2) 0", "start(0, 3) 2", "start(2, 0) 1");
        Samples.learnt().due("start(1, 0) 1", "start(1, 1) 0", "start(2, 0) 1", "start(2, 1) 0");
    }

    @Says(promise = 7, value = "BAD: m;")
    static void startOfNoMachine() {
        Twins.refuse(Samples::rich, "start(-1, 0) BAD", "start(3, 0) BAD", "start(" + LEAST + ", 0) BAD",
                "start(" + GREATEST + ", 0) BAD");
        Samples.rich().due("start(0, 0) 1", "start(2, 0) 1");
    }

    @Says(promise = 7, value = "STATE;")
    static void startWithoutAGuess() {
        Twins.refuse(Samples::richWithoutGuess, "start(1, 0) STATE", "start(1, -1) STATE", "start(1, 4) STATE");
        Samples.fresh().due("start(1, 0) STATE", "learn() NONE", "start(1, 0) BAD");
    }

    @Says(promise = 7, value = "behind it BAD: s.")
    static void startOfNoState() {
        Twins.refuse(Samples::rich, "start(0, -1) BAD", "start(0, 2) BAD", "start(1, -1) BAD", "start(1, 2) BAD",
                "start(2, -1) BAD", "start(2, 2) BAD", "start(0, " + LEAST + ") BAD", "start(0, " + GREATEST + ") BAD");
        fourStates().due("start(0, 3) 2", "start(0, 4) BAD");
        // each machine has states of its own
        Samples.told("states 4;start 0 1;end 0 1;").calls("learn()").due("start(0, 3) 0", "start(1, 0) 1", "start(1, 1) BAD",
                "start(2, 0) 1", "start(2, 1) BAD");
    }

    // ---- promise 8

    @Says(promise = 8, value = "END of a STATE.")
    static void endsOfTheFirstAndTheLast() {
        fourStates().due("finish(0, 0) 3", "finish(0, 1) 0", "finish(0, 2) 0", "finish(0, 3) 95");
        Samples.learnt().due("finish(1, 0) 0", "finish(1, 1) 2", "finish(2, 0) 0", "finish(2, 1) 2");
    }

    @Says(promise = 8, value = "BAD: m;")
    static void endOfNoMachine() {
        Twins.refuse(Samples::rich, "finish(-1, 0) BAD", "finish(3, 0) BAD", "finish(" + LEAST + ", 0) BAD",
                "finish(" + GREATEST + ", 0) BAD");
        Samples.rich().due("finish(0, 1) 1", "finish(2, 1) 2");
    }

    @Says(promise = 8, value = "STATE;")
    static void endWithoutAGuess() {
        Twins.refuse(Samples::richWithoutGuess, "finish(1, 0) STATE", "finish(1, -1) STATE", "finish(1, 4) STATE");
        Samples.fresh().due("finish(1, 0) STATE", "learn() NONE", "finish(1, 0) BAD");
    }

    @Says(promise = 8, value = "behind it BAD: s.")
    static void endOfNoState() {
        Twins.refuse(Samples::rich, "finish(0, -1) BAD", "finish(0, 2) BAD", "finish(1, -1) BAD", "finish(1, 2) BAD",
                "finish(2, -1) BAD", "finish(2, 2) BAD", "finish(0, " + LEAST + ") BAD", "finish(0, " + GREATEST + ") BAD");
        fourStates().due("finish(0, 3) 95", "finish(0, 4) BAD");
        Samples.told("states 4;start 0 1;end 0 1;").calls("learn()").due("finish(0, 3) 0", "finish(1, 0) 1",
                "finish(1, 1) BAD", "finish(2, 0) 1", "finish(2, 1) BAD");
    }

    // ---- promise 9

    @Says(promise = 9, value = "WEIGHT from s by LETTER x to t.")
    static void weightsOfTheFirstAndTheLast() {
        fourStates().due("edge(0, 0, 0, 0) 4", "edge(0, 3, 2, 3) 94", "edge(0, 0, 2, 3) 5", "edge(0, 3, 2, 0) 0",
                "edge(0, 3, 0, 0) 93", "edge(0, 0, 0, 3) 0");
        Samples.learnt().due("edge(1, 1, 0, 0) 4", "edge(1, 1, 0, 1) 2", "edge(1, 0, 0, 1) 1", "edge(2, 1, 1, 1) 1");
    }

    @Says(promise = 9, value = "BAD: m;")
    static void weightOfNoMachine() {
        Twins.refuse(Samples::rich, "edge(-1, 0, 0, 0) BAD", "edge(3, 0, 0, 0) BAD", "edge(" + LEAST + ", 0, 0, 0) BAD",
                "edge(" + GREATEST + ", 0, 0, 0) BAD");
        Samples.rich().due("edge(0, 0, 0, 1) 2", "edge(2, 0, 0, 1) 1");
    }

    @Says(promise = 9, value = "STATE;")
    static void weightWithoutAGuess() {
        Twins.refuse(Samples::richWithoutGuess, "edge(1, 0, 0, 0) STATE", "edge(1, 9, 0, 0) STATE",
                "edge(1, 0, -1, 0) STATE", "edge(1, 0, 0, 9) STATE");
        Samples.fresh().due("edge(1, 0, 0, 0) STATE", "learn() NONE", "edge(1, 0, 0, 0) BAD");
    }

    @Says(promise = 9, value = "behind it BAD: s, x, t.")
    static void weightOfNoStateOrLetter() {
        for (int m = 0; m < 3; m++) {
            Twins.refuse(Samples::rich, "edge(" + m + ", -1, 0, 0) BAD", "edge(" + m + ", 2, 0, 0) BAD",
                    "edge(" + m + ", 0, -1, 0) BAD", "edge(" + m + ", 0, 2, 0) BAD", "edge(" + m + ", 0, 0, -1) BAD",
                    "edge(" + m + ", 0, 0, 2) BAD");
        }
        for (int off : new int[] {LEAST, GREATEST}) {
            Samples.rich().due("edge(0, " + off + ", 0, 0) BAD", "edge(0, 0, " + off + ", 0) BAD",
                    "edge(0, 0, 0, " + off + ") BAD");
        }
        fourStates().due("edge(0, 3, 2, 3) 94", "edge(0, 4, 2, 3) BAD", "edge(0, 3, 3, 3) BAD", "edge(0, 3, 2, 4) BAD");
        Samples.told("letters 1;states 1;").due("edge(0, 0, 0, 0) 0", "edge(0, 0, 1, 0) BAD");
    }

    // ---- promise 10

    @Says(promise = 10, value = "LETTER x comes behind THE WORD: how many it has.")
    static void wordOfNoneTo12Letters() {
        Run run = Samples.fresh();
        for (int i = 1; i <= 12; i++) {
            run.due("letter(" + i % 2 + ") " + i);
        }
        // behind it, not ahead
        Samples.told("states 3;start 0 1;edge 0 a 1 1;edge 1 b 2 1;end 2 1;").due("letter(0) 1", "letter(1) 2", "value(0) 1",
                "wipe() 2", "letter(1) 1", "letter(0) 2", "value(0) 0");
    }

    @Says(promise = 10, value = "BAD;")
    static void otherLettersAreBad() {
        Twins.refuse(Samples::rich, "letter(-1) BAD", "letter(2) BAD", "letter(" + LEAST + ") BAD",
                "letter(" + GREATEST + ") BAD");
        Samples.told("letters 1;").due("letter(0) 1", "letter(1) BAD", "wipe() 1");
        Samples.told("letters 3;").due("letter(2) 1", "letter(3) BAD", "wipe() 1");
    }

    @Says(promise = 10, value = "FULL: 12.")
    static void moreThan12LettersAreTooMany() {
        Samples.fresh().times(11, "letter(0)").due("letter(1) 12", "letter(0) FULL", "letter(1) FULL", "wipe() 12");
        Twins.refuse(Samples::fullOfAll, "letter(0) FULL", "letter(1) FULL", "letter(2) BAD", "letter(-1) BAD");
        Samples.fullOfAll().due("wipe() 12", "letter(0) 1");
        // whatever the letters are
        for (int l = 1; l <= 3; l++) {
            Samples.told("letters " + l + ";").times(11, "letter(" + (l - 1) + ")").due("letter(" + (l - 1) + ") 12",
                    "letter(0) FULL", "wipe() 12");
        }
    }

    // ---- promise 11

    @Says(promise = 11, value = "THE WORD is empty: how many LETTERS it had.")
    static void wordIsWiped() {
        Samples.fresh().due("wipe() 0", "wipe() 0", "letter(0) 1", "wipe() 1", "wipe() 0", "letter(0) 1");
        Samples.fresh().times(13, "letter(1)").due("wipe() 12", "wipe() 0");
        Samples.told(Samples.COUNTS).word("aa").due("value(0) 4", "wipe() 2", "value(0) 0", "letter(0) 1", "value(0) 2");
        // a change, an image leave it as it is
        Samples.fresh().word("ab").calls("keep(0)", "grow()", "letter(0)", "back(0)").due("wipe() 3");
    }

    // ---- promise 12

    @Says(promise = 12, value = "VALUE of THE WORD.")
    static void valuesOfTheEmptyAndTheLongestWord() {
        Samples.told("states 2;start 0 2;start 1 3;end 0 3;end 1 4;").due("value(0) 4", "letter(0) 1", "value(0) 0");
        Run run = Samples.told("letters 3;states 1;start 0 1;end 0 1;edge 0 a 0 2;edge 0 b 0 3;edge 0 c 0 6;");
        run.calls("learn()").word("abcabcabcabc").due("value(0) 1", "value(1) 1", "value(2) 1");
        run.word("cccccccccccc").due("value(0) 1", "value(1) 1", "value(2) 1");
        run.word("bbbbbbbbbbb").due("value(0) 5", "value(1) 5", "value(2) 5", "letter(1) 12", "value(0) 1", "value(1) 1");
        run.word("aaaaaaaaaaab").due("value(0) " + 4 * 3 % 7, "value(1) 5", "value(2) 5");
        run = Samples.told("letters 1;states 1;start 0 1;end 0 1;edge 0 a 0 3;").word("aaaaaaaaaaa");
        run.due("value(0) 5", "letter(0) 12", "value(0) 1", "letter(0) FULL", "value(0) 1");
    }

    @Says(promise = 12, value = "BAD;")
    static void valueOfNoMachine() {
        Twins.refuse(Samples::rich, "value(-1) BAD", "value(3) BAD", "value(" + LEAST + ") BAD", "value(" + GREATEST + ") BAD");
        Samples.rich().due("value(0) 4", "value(1) 4", "value(2) 4");
    }

    @Says(promise = 12, value = "STATE.")
    static void valueWithoutAGuess() {
        Twins.refuse(Samples::richWithoutGuess, "value(1) STATE");
        Samples.fresh().due("value(1) STATE", "close() 0", "value(1) STATE", "learn() NONE", "value(1) 0");
    }

    // ---- promise 13

    private static Run spaces(Run run, int m, int forward, int backward, int all) {
        return run.due("space(" + m + ", 0) " + forward, "space(" + m + ", 1) " + backward, "space(" + m + ", 2) " + all);
    }

    @Says(promise = 13, value = "Dimension of all rows that a MACHINE has, STATE by STATE: what 0 of what comes by any WORD"
            + " from all STARTS (of each STATE summed over all rows of STATES that end there),")
    static void forwardDimension() {
        Samples.fresh().due("space(0, 0) 0");
        // starts of 0: none, whatever the weights are; a start without weights: one
        Samples.told("states 4;edge 0 a 1 1;edge 1 a 2 1;end 0 1;end 1 1;end 2 1;").due("space(0, 0) 0", "begins(0, 1) 0",
                "space(0, 0) 3", "leads(2, 1, 3, 6) 0", "space(0, 0) 4");
        Samples.told("states 4;start 0 1;start 3 6;").due("space(0, 0) 1");
        // two rows that end in a state come to nothing there
        Samples.told("states 3;start 0 1;start 1 6;edge 0 a 2 1;edge 1 a 2 1;").due("space(0, 0) 1", "leads(1, 0, 2, 2) 1",
                "space(0, 0) 2");
    }

    @Says(promise = 13, value = "1 of what comes by any WORD to all ENDS (likewise of those that begin there),")
    static void backwardDimension() {
        Samples.fresh().due("space(0, 1) 0");
        Samples.told("states 4;edge 0 a 1 1;edge 1 a 2 1;start 0 1;start 1 1;").due("space(0, 1) 0", "ends(2, 1) 0",
                "space(0, 1) 3", "leads(3, 1, 0, 6) 0", "space(0, 1) 4");
        Samples.told("states 4;end 0 1;end 3 6;").due("space(0, 1) 1");
        Samples.told("states 3;end 0 1;end 1 6;edge 2 a 0 1;edge 2 a 1 1;").due("space(0, 1) 1", "leads(2, 0, 1, 2) 1",
                "space(0, 1) 2");
    }

    @Says(promise = 13, value = "2 STATES of the LEAST MACHINE of the same VALUES.")
    static void dimensionInAll() {
        spaces(Samples.fresh(), 0, 0, 0, 0);
        spaces(spaces(Samples.told(Samples.RING), 0, 4, 4, 4), 2, 4, 4, 4);
        spaces(Samples.told("states 2;start 0 1;start 1 1;end 0 3;end 1 4;"), 0, 1, 1, 0);
        spaces(Samples.told("states 3;start 0 1;end 1 1;end 2 1;edge 0 a 1 1;edge 0 b 2 1;"), 0, 3, 2, 2);
        // a guess may have fewer than what is guessed
        Run run = Samples.told(Samples.RING).calls("learn()");
        spaces(spaces(run, 1, 0, 0, 0), 0, 4, 4, 4).calls("learn()");
        spaces(run, 1, 3, 3, 3).calls("learn()");
        spaces(run, 1, 4, 4, 4);
    }

    @Says(promise = 13, value = "BAD;")
    static void spaceOfNoMachineOrKind() {
        Twins.refuse(Samples::rich, "space(-1, 0) BAD", "space(3, 0) BAD", "space(0, -1) BAD", "space(0, 3) BAD",
                "space(1, -1) BAD", "space(1, 3) BAD", "space(2, 3) BAD");
        for (int off : new int[] {LEAST, GREATEST}) {
            Samples.rich().due("space(" + off + ", 0) BAD", "space(0, " + off + ") BAD");
        }
        Samples.rich().due("space(0, 0) 2", "space(2, 2) 2");
    }

    @Says(promise = 13, value = "STATE.")
    static void spaceWithoutAGuess() {
        Twins.refuse(Samples::richWithoutGuess, "space(1, 0) STATE", "space(1, 1) STATE", "space(1, 2) STATE");
        Samples.fresh().due("space(1, 3) BAD", "space(1, -1) BAD", "space(1, 2) STATE", "learn() NONE", "space(1, 2) 0");
    }

    // ---- promise 14

    private static int bits(int zeros, int words) {
        return Float.floatToRawIntBits((float) zeros / (float) words);
    }

    @Says(promise = 14, value = "Of all WORDS of n LETTERS (0 to 6) those of VALUE 0: how many, as a float, divided by how"
            + " many WORDS, as a float: its 32 bits.")
    static void sharesOf0To6Letters() {
        int words = 1;
        int some = 1;
        Run run = Samples.told(POWERS);
        for (int n = 0; n <= 6; n++) {
            run.due("share(0, " + n + ") " + bits(words - some, words), "share(2, " + n + ") " + bits(words - some, words));
            words *= 3;
            some *= 2;
        }
        // all, none, all but one, one
        Samples.fresh().due("share(0, 0) 1065353216", "share(0, 6) 1065353216");
        Samples.told(GREATEST_VALUES).due("share(0, 0) 0", "share(0, 6) 0");
        Samples.told("letters 3;states 1;start 0 1;end 0 1;edge 0 c 0 1;").due("share(0, 6) " + bits(728, 729),
                "share(0, 1) " + bits(2, 3), "share(0, 0) 0");
        run = Samples.told("letters 1;states 2;start 0 1;end 0 1;edge 0 a 1 1;edge 1 a 0 1;");
        run.due("share(0, 0) 0", "share(0, 5) 1065353216", "share(0, 6) 0");
        // a word of six letters that alone has no value
        run = Samples.told("prime 3;letters 3;states 2;start 0 1;end 0 1;start 1 2;end 1 1;edge 1 b 1 1;edge 0 a 0 1;"
                + "edge 0 b 0 1;edge 0 c 0 1;");
        run.due("share(0, 6) " + bits(1, 729), "share(0, 5) " + bits(1, 243), "share(0, 0) 1065353216");
    }

    @Says(promise = 14, value = "BAD;")
    static void shareOfNoMachineOrLength() {
        Twins.refuse(Samples::rich, "share(-1, 0) BAD", "share(3, 0) BAD", "share(0, -1) BAD", "share(0, 7) BAD",
                "share(1, 7) BAD", "share(2, -1) BAD");
        for (int off : new int[] {LEAST, GREATEST}) {
            Samples.rich().due("share(" + off + ", 0) BAD", "share(0, " + off + ") BAD");
        }
        Samples.rich().due("share(0, 0) 1065353216", "share(2, 0) 1065353216");
    }

    @Says(promise = 14, value = "STATE.")
    static void shareWithoutAGuess() {
        Twins.refuse(Samples::richWithoutGuess, "share(1, 0) STATE", "share(1, 6) STATE");
        Samples.fresh().due("share(1, 7) BAD", "share(1, -1) BAD", "share(1, 6) STATE", "learn() NONE",
                "share(1, 6) 1065353216");
    }

    // ---- promise 15

    private static long bits(double sum, int words) {
        return Double.doubleToRawLongBits(sum / words);
    }

    @Says(promise = 15, value = "VALUES of all WORDS of n LETTERS (0 to 6) as numbers, summed (not modulo P), as a double,"
            + " divided by how many WORDS: its 64 bits.")
    static void meansOf0To6Letters() {
        // words of n letters, k of them c, no b: n over k of them, of 1, 2, 4, 1, 2, 4, 1
        int[] sums = {1, 3, 9, 20, 39, 75, 148};
        int words = 1;
        Run run = Samples.told(POWERS).calls("learn()");
        for (int n = 0; n <= 6; n++) {
            for (int m = 0; m < 3; m++) {
                run.due("mean(" + m + ", " + n + ") " + bits((double) sums[n], words));
            }
            words *= 3;
        }
        // the least, the greatest, one word of 729
        Samples.fresh().due("mean(0, 0) 0", "mean(0, 6) 0");
        long greatest = Double.doubleToRawLongBits(96.0);
        Samples.told(GREATEST_VALUES).due("mean(0, 0) " + greatest, "mean(0, 1) " + greatest, "mean(0, 6) " + greatest);
        Samples.told("letters 3;states 1;start 0 1;end 0 1;edge 0 b 0 1;").due("mean(0, 6) " + bits(1.0, 729));
        Samples.told("letters 1;states 1;start 0 1;end 0 1;edge 0 a 0 2;").due("mean(0, 6) " + bits(1.0, 1),
                "mean(0, 5) " + bits(4.0, 1), "mean(0, 4) " + bits(2.0, 1));
    }

    @Says(promise = 15, value = "BAD;")
    static void meanOfNoMachineOrLength() {
        Twins.refuse(Samples::rich, "mean(-1, 0) BAD", "mean(3, 0) BAD", "mean(0, -1) BAD", "mean(0, 7) BAD",
                "mean(1, 7) BAD", "mean(2, -1) BAD");
        for (int off : new int[] {LEAST, GREATEST}) {
            Samples.rich().due("mean(" + off + ", 0) BAD", "mean(0, " + off + ") BAD");
        }
        Samples.rich().due("mean(0, 0) 0", "mean(2, 0) 0");
    }

    @Says(promise = 15, value = "STATE.")
    static void meanWithoutAGuess() {
        Twins.refuse(Samples::richWithoutGuess, "mean(1, 0) STATE", "mean(1, 6) STATE");
        Samples.fresh().due("mean(1, 7) BAD", "mean(1, -1) BAD", "mean(1, 6) STATE", "learn() NONE", "mean(1, 6) 0");
    }
}
