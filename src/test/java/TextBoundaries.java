/** Promises 1 to 6: a new object, the text. */
final class TextBoundaries {
    private static final int LEAST = Integer.MIN_VALUE, GREATEST = Integer.MAX_VALUE;

    private TextBoundaries() {
    }

    // ---- promise 1

    @Says(promise = 1, value = "P 7, L 2;")
    static void newObjectHasP7L2() {
        Samples.fresh().due("rule(0) 7", "rule(1) 2", "letter(1) 1", "letter(2) BAD", "scale(6) 0", "scale(7) BAD");
    }

    @Says(promise = 1, value = "THE TEACHER without STATES, THE TABLE ANEW;")
    static void newObjectHasNoStatesAndATableAnew() {
        Samples.fresh().due("rule(2) 0", "rule(4) 0", "start(0, 0) BAD", "finish(0, 0) BAD", "edge(0, 0, 0, 0) BAD",
                "drop(0) BAD", "begins(0, 0) BAD").anew();
        Samples.fresh().due("rule(10) 0", "rule(11) 0", "wipe() 0", "fault() 0", "back(0) STATE", "back(1) STATE");
    }

    @Says(promise = 1, value = "SHELVES of nothing.")
    static void newObjectHasShelvesOfNothing() {
        Samples.fresh().due("rule(12) 0", "kind(0, 0) NULL", "kind(1, 0) NULL", "kind(2, 0) NULL", "take(0, 2, 0) NULL",
                "take(1, 2, 0) NULL", "take(2, 2, 0) NULL", "lay(0, 0, 0) NULL", "lay(1, 0, 0) NULL", "lay(2, 0, 0) NULL");
    }

    // ---- promise 2

    @Says(promise = 2, value = "A byte (0 to 127) comes behind THE TAPE: how many it has.")
    static void bytesFrom0To127AreFed() {
        Samples.fresh().due("feed(0) 1", "feed(127) 2", "rule(10) 2");
        Run run = Samples.fresh();
        for (int c = 0; c < 128; c++) {
            run.due("feed(" + c + ") " + (c + 1));
        }
        // each comes behind, and stays as it came
        Samples.fresh().due("feed(32) 1", "feed(0) 2", "text() -11", "fault() 1");
        Samples.fresh().due("feed(32) 1", "feed(32) 2", "feed(127) 3", "text() -12", "fault() 1");
    }

    @Says(promise = 2, value = "BAD;")
    static void otherBytesAreBad() {
        Twins.refuse(Samples::rich, "feed(-1) BAD", "feed(128) BAD", "feed(160) BAD", "feed(288) BAD",
                "feed(" + LEAST + ") BAD", "feed(" + GREATEST + ") BAD");
    }

    @Says(promise = 2, value = "FULL: more than 200.")
    static void moreThan200BytesAreTooMany() {
        Samples.fresh().times(199, "feed(32)").due("feed(59) 200", "feed(32) FULL", "rule(10) 200", "text() -209");
        Twins.refuse(Samples::fullOfAll, "feed(32) FULL", "feed(0) FULL", "feed(127) FULL", "feed(-1) BAD");
        // there is room again behind end(), behind text()
        Samples.fullOfAll().due("end(199) 200", "feed(32) 200", "feed(32) FULL", "text() 3", "feed(32) 1");
    }

    // ---- promise 3

    @Says(promise = 3, value = "THE TAPE keeps its first n bytes: how many it had.")
    static void tapeKeepsFrom0ToAllBytes() {
        Samples.fresh().due("end(0) 0", "rule(10) 0");
        Samples.fresh().feeds("prime 5;@").due("end(9) 9", "rule(10) 9", "end(8) 9", "rule(10) 8", "text() 1", "rule(0) 5");
        Samples.fresh().feeds("prime 5;").due("end(0) 8", "rule(10) 0", "end(0) 0", "text() 0", "rule(0) 7");
        Samples.fresh().times(200, "feed(32)").due("end(200) 200", "end(199) 200", "end(0) 199", "feed(32) 1");
        // what was cut off does not come again
        Samples.fresh().feeds("prime 5;").due("end(5) 8").feeds("     ").due("text() -20", "fault() 2");
    }

    @Says(promise = 3, value = "BAD (n above that, too).")
    static void tapeKeepsNoFewerAndNoMore() {
        Twins.refuse(Samples::rich, "end(-1) BAD", "end(28) BAD", "end(200) BAD", "end(" + LEAST + ") BAD",
                "end(" + GREATEST + ") BAD");
        Samples.rich().due("end(27) 27", "end(0) 27", "end(1) BAD", "end(0) 0");
        Twins.refuse(Samples::fullOfAll, "end(201) BAD", "end(-1) BAD");
    }

    // ---- promise 4

    @Says(promise = 4, value = "THE TAPE (empty then, by a FAULT, too) tells all:")
    static void tapeIsEmptyBehindText() {
        Samples.fresh().reads("prime 5;", 1).due("rule(10) 0", "end(0) 0", "end(1) BAD", "text() 0", "rule(0) 7");
        String[] faulty = {"@", "name", "prime 4;", "prime 5;prime", "start 0 1;"};
        for (String text : faulty) {
            Samples.fresh().feeds(text).calls("text()").due("rule(10) 0", "end(1) BAD", "text() 0", "fault() 0");
        }
        Samples.fresh().times(200, "feed(64)").due("text() -10", "rule(10) 0", "feed(64) 1");
    }

    @Says(promise = 4, value = "how many lines;")
    static void noLinesToAsManyAsMayBe() {
        Samples.fresh().reads("", 0).reads(" ".repeat(200), 0).reads("states 0;", 1);
        // 199 bytes and a blank: a line of 8, one of 9, 26 of 7
        String text = "prime 2;states 1;" + "end0 1;".repeat(26) + " ";
        Samples.fresh().reads(text, 28).due("finish(0, 0) 1");
        Samples.fresh().reads("states 1;" + "end 0 1;".repeat(23), 24);
    }

    @Says(promise = 4, value = "-10 less the place of its FAULT:")
    static void placesFrom0To200() {
        Samples.fresh().reads("@", -10).reads(" @", -11).reads(" ".repeat(199) + "@", -209);
        Samples.fresh().reads(" ".repeat(195) + "prime", -210).reads("start 0 1;" + " ".repeat(190), -210);
        Samples.fresh().reads("prime", -15).reads("start 0 1;", -20);
    }

    @Says(promise = 4, value = "that which was told stays.")
    static void whatWasToldStaysBehindAFault() {
        String[] texts = {"prime 3;letters 1;@", "prime 3;states 1;name", "letters 3;prime 4;", "prime 3;prime 5;",
            "prime 3;states 1;start 1 1;"};
        int[] places = {18, 17, 16, 8, 27};
        for (int i = 0; i < texts.length; i++) {
            Twins.refuseText(() -> Samples.rich().calls("end(0)"), texts[i], i + 1, places[i]);
        }
        // nor does a refused text leave anything to a later one
        Samples.fresh().faulty("prime 3;letters 3;states 2;start 1 5;edge 1 c 1 2;@", 1, 50)
                .reads("states 2;", 1).due("rule(0) 7", "rule(1) 2", "start(0, 1) 0", "finish(0, 1) 0");
        Samples.fresh().faulty("states 2;edge 1 b 1 2;start 2 1;", 5, 32).reads("states 3;", 1)
                .due("edge(0, 1, 1, 1) 0", "start(0, 2) 0");
    }

    // ---- promise 5

    @Says(promise = 5, value = "The FAULT of the latest text();")
    static void faultOfTheLatestText() {
        Run run = Samples.fresh().faulty("@", 1, 0).faulty("name", 2, 0).faulty("prime 4;", 3, 6);
        run.faulty("prime 5;prime", 4, 8).faulty("start 0 1;", 5, 10);
        // it stays till the next text(), whatever comes between
        run.due("fault() 5", "keep(0) 0", "feed(64) 1", "fault() 5", "end(0) 1", "fault() 5", "draw(1, 2) 1", "back(0) 0",
                "fault() 5", "feed(200) BAD", "fault() 5", "text() 0", "fault() 0");
    }

    @Says(promise = 5, value = "0.")
    static void noFault() {
        Samples.fresh().due("fault() 0", "feed(64) 1", "fault() 0");
        Samples.fresh().reads("", 0).due("fault() 0");
        Samples.fresh().faulty("prime 4;", 3, 6).reads("prime 5;", 1).due("fault() 0");
    }

    // ---- promise 6

    @Says(promise = 6, value = "0 P, 1 L, 2 STATES of THE TEACHER,")
    static void rulesOfTheTeacher() {
        Samples.fresh().due("rule(0) 7", "rule(1) 2", "rule(2) 0");
        Samples.told("prime 2;letters 1;states 0;").due("rule(0) 2", "rule(1) 1", "rule(2) 0");
        Samples.told("prime 97;letters 3;states 4;").due("rule(0) 97", "rule(1) 3", "rule(2) 4");
    }

    @Says(promise = 6, value = "3 of THE GUESS (NONE), 4 of THE LEAST,")
    static void rulesOfGuessAndLeast() {
        Samples.fresh().due("rule(3) NONE", "rule(4) 0", "learn() NONE", "rule(3) 0", "turn() 0", "rule(3) NONE");
        Samples.told(Samples.RING).due("rule(4) 4", "rule(3) NONE", "learn() 2", "rule(3) 0", "learn() 6", "rule(3) 3",
                "learn() NONE", "rule(3) 4");
        // three states that look alike are one
        Samples.told("states 4;start 0 1;start 1 1;start 2 1;end 0 1;end 1 1;end 2 1;").due("rule(2) 4", "rule(4) 1");
    }

    @Says(promise = 6, value = "5 PREFIXES, 6 SUFFIXES, 7 ROUNDS,")
    static void rulesOfTheTable() {
        Samples.fresh().due("rule(5) 0", "rule(6) 1", "rule(7) 0", "learn() NONE", "rule(7) 1", "rule(5) 0", "rule(6) 1");
        Samples.told(Samples.RING).calls("ask(2)", "learn()", "learn()").due("rule(5) 4", "rule(6) 7", "rule(7) 2");
        Samples.fullOfSuffixes().due("rule(6) 24");
        // rounds are counted as long as an object is used: this is its call 512
        Samples.fresh().times(511, "learn()").due("rule(7) 511");
        // learn() brings more suffixes than may be asked for
        Samples.suffixesThatTellNothing().due("rule(6) 24", "learn() 22", "rule(6) 27", "suffix(26) 22", "suffix(27) NONE");
    }

    @Says(promise = 6, value = "8 whether THE TABLE is CLOSED (1, 0),")
    static void ruleOfClosing() {
        Samples.told("states 1;start 0 1;end 0 1;").due("rule(8) 0", "rule(8) 0", "rule(5) 0", "close() 1", "rule(8) 1");
        Samples.told(Samples.COUNTS).due("learn() 1", "rule(8) 0", "rule(5) 0", "learn() NONE", "rule(8) 1");
        Samples.told(Samples.CROSSED).due("rule(8) 0", "close() 1", "rule(8) 1", "ask(1) 2", "rule(8) 0", "rule(5) 1",
                "close() 1", "rule(8) 1", "ask(2) 3", "rule(8) 0", "close() 1", "rule(8) 1");
    }

    @Says(promise = 6, value = "9 how many unlike WORDS are a PREFIX or a PREFIX and a LETTER, with a SUFFIX behind it,")
    static void ruleOfUnlikeWords() {
        Samples.fresh().due("rule(9) 0", "ask(62) 6", "rule(9) 0");
        // the empty word alone: it and its letters
        for (int l = 1; l <= 3; l++) {
            Samples.told("letters " + l + ";states 1;start 0 1;end 0 1;").calls("close()").due("rule(9) " + (1 + l));
        }
        // a to the 0 to 10: many ways to each, but one word
        Samples.told(Samples.RING).calls("ask(2)", "learn()", "learn()").due("rule(5) 4", "rule(6) 7", "rule(9) 11");
        // (empty, b, a) with (empty, a, b) with (empty, a, b): 1 and 2 and 4, of three letters those of aaa to bbb
        Samples.told(Samples.CROSSED).calls("close()", "ask(1)", "close()", "ask(2)", "close()").due("rule(9) 15");
    }

    @Says(promise = 6, value = "10 bytes on THE TAPE, 11 IMAGES, 12 SHELVES that are not nothing.")
    static void rulesOfTapeImagesShelves() {
        Samples.fresh().due("rule(10) 0", "feed(0) 1", "rule(10) 1", "end(0) 1", "rule(10) 0").times(201, "feed(9)")
                .due("rule(10) 200");
        Samples.fresh().due("rule(11) 0", "keep(1) 0", "rule(11) 1", "keep(1) 1", "rule(11) 1", "keep(0) 0", "rule(11) 2",
                "back(0) 0", "rule(11) 2");
        // a shelf of no cells is not nothing
        Samples.fresh().due("rule(12) 0", "shelf(2, 0, 0) 1", "rule(12) 1", "shelf(2, 1, 8) 1", "rule(12) 1",
                "shelf(0, 2, 3) 1", "rule(12) 2", "shelf(1, 2, 3) 1", "rule(12) 3", "shelf(1, 2, -1) SIZE", "rule(12) 3");
    }

    @Says(promise = 6, value = "BAD.")
    static void otherRulesAreBad() {
        Twins.refuse(Samples::rich, "rule(-1) BAD", "rule(13) BAD", "rule(" + LEAST + ") BAD", "rule(" + GREATEST + ") BAD");
        Samples.rich().due("rule(0) 5", "rule(12) 2");
    }
}
