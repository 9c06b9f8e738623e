/** Promises 35 to 41: images, shelves. */
final class ShelfBoundaries {
    private static final int LEAST = Integer.MIN_VALUE, GREATEST = Integer.MAX_VALUE;

    private ShelfBoundaries() {
    }

    // ---- promise 35

    @Says(promise = 35, value = "IMAGE k (0, 1) is THE TEACHER, THE TABLE, ROUNDS, THE GUESS: whether there was one (1, 0).")
    static void imagesAreKept() {
        Samples.fresh().due("keep(0) 0", "keep(0) 1", "keep(1) 0", "keep(1) 1", "rule(11) 2", "keep(0) 1", "rule(11) 2");
        Samples.fresh().due("keep(1) 0", "back(0) STATE", "keep(0) 0", "text() 0", "keep(0) 0", "back(1) STATE");
        // each is as it was when it was kept
        Run run = Samples.learnt().due("keep(0) 0", "ask(6) 4", "keep(1) 0", "draw(3, 4) 1", "back(0) 2", "rule(6) 2");
        run.due("back(1) 2", "rule(6) 4", "rule(7) 2", "rule(3) 2", "rule(5) 2", "scale(0) 2", "keep(1) 1", "back(0) 2");
        run.due("differ(1) 1", "rule(3) 2", "back(1) 2", "start(0, 0) 0", "rule(3) NONE", "differ(0) 1");
        // what comes behind prefixes and suffixes later does not come to an image that was kept, or came back
        run = Samples.told(Samples.CROSSED).due("close() 1", "keep(0) 0", "ask(1) 2", "close() 1", "back(0) 3", "rule(5) 1");
        run.due("rule(6) 1", "ask(1) 2", "close() 1", "rule(5) 2", "back(0) 3", "rule(5) 1", "rule(6) 1", "learn() 4");
        run.due("rule(7) 1", "back(0) 3", "rule(7) 0", "rule(3) NONE", "rule(6) 1");
        // to keep leaves all as it is
        Samples.learnt().due("keep(0) 0", "rule(7) 2", "rule(5) 2", "rule(6) 2", "rule(3) 2", "counter() NONE");
    }

    @Says(promise = 35, value = "BAD.")
    static void noOtherImageIsKept() {
        Twins.refuse(Samples::rich, "keep(-1) BAD", "keep(2) BAD", "keep(" + LEAST + ") BAD", "keep(" + GREATEST + ") BAD");
        Samples.fresh().due("keep(2) BAD", "keep(-1) BAD", "rule(11) 0", "keep(1) 0", "rule(11) 1");
    }

    // ---- promise 36

    @Says(promise = 36, value = "All is as IMAGE k: STATES of THE TEACHER.")
    static void allIsAsTheImage() {
        // one that was anew, without states
        Samples.fresh().calls("keep(0)", "draw(3, 4)", "learn()", "ask(62)").due("back(0) 0", "rule(2) 0", "rule(4) 0").anew();
        // one of four states, all learnt
        Run run = Samples.told(Samples.RING).calls("ask(2)", "learn()", "learn()", "keep(1)", "shrink()", "drop(0)");
        run.due("back(1) 4", "rule(2) 4", "rule(4) 4", "rule(5) 4", "rule(6) 7", "rule(7) 2", "rule(3) 4", "counter() NONE");
        run.due("prefix(3) 3", "suffix(6) 6", "basis(3) 3", "edge(0, 3, 0, 0) 1", "edge(1, 3, 0, 0) 1", "finish(1, 2) 1");
        // the table is the image's own, whatever came in its place
        run = Samples.told(Samples.CROSSED).calls("close()", "ask(1)", "close()", "ask(5)", "ask(2)", "close()", "keep(0)");
        run.calls("begins(0, 1)", "ask(62)", "close()").due("prefix(1) 1", "suffix(1) 2", "rule(6) 6", "back(0) 3", "rule(6) 4");
        run.due("prefix(0) 0", "prefix(1) 2", "prefix(2) 1", "prefix(3) NONE");
        run.due("suffix(0) 0", "suffix(1) 1", "suffix(2) 5", "suffix(3) 2", "suffix(4) NONE");
        // so is the least machine of its teacher, also if another was looked at
        Samples.told(Samples.ABA).due("rule(4) 4", "keep(0) 0", "scale(0) 4", "rule(4) 0", "basis(0) NONE", "back(0) 4",
                "rule(4) 4", "basis(3) 9", "value(2) 0", "start(2, 3) 0", "finish(2, 3) 6");
        // each change behind it is of the teacher alone
        String[] changes = {"begins(0, 4)", "ends(0, 4)", "leads(0, 1, 1, 4)", "scale(3)", "turn()", "grow()", "drop(1)"};
        run = Samples.learnt().calls("keep(0)");
        for (String change : changes) {
            run.due("back(0) 2").calls(change).due("back(0) 2", "start(0, 0) 1", "start(0, 1) 0", "finish(0, 0) 0",
                    "finish(0, 1) 1", "edge(0, 0, 1, 1) 0", "edge(0, 0, 0, 1) 2", "edge(0, 1, 0, 0) 0", "rule(3) 2");
        }
        // it stays an image, and what comes of all else does not touch it
        run = Samples.told(Samples.RING).calls("ask(2)", "learn()", "learn()", "keep(1)");
        run.due("drop(0) 3", "learn() NONE", "back(1) 4", "rule(7) 2", "rule(3) 4", "back(1) 4", "rule(11) 1");
        // what is in no image stays: the word, the tape, the shelves
        Samples.fresh().due("keep(0) 0", "letter(0) 1", "feed(9) 1", "shelf(1, 0, 2) 1", "lay(1, 0, 0) 1", "back(0) 0",
                "rule(10) 1", "rule(12) 1", "kind(1, 0) 0", "wipe() 1");
        // a guess without states is another thing than none
        Samples.fresh().due("keep(0) 0", "learn() NONE", "keep(1) 0", "back(0) 0", "rule(3) NONE", "back(1) 0", "rule(3) 0",
                "rule(7) 1");
    }

    @Says(promise = 36, value = "BAD;")
    static void noOtherImageComesBack() {
        Twins.refuse(Samples::rich, "back(-1) BAD", "back(2) BAD", "back(" + LEAST + ") BAD", "back(" + GREATEST + ") BAD");
        Samples.fresh().due("back(2) BAD", "back(-1) BAD", "back(0) STATE", "back(1) STATE");
    }

    @Says(promise = 36, value = "STATE: there is none.")
    static void noImageToComeBack() {
        Twins.refuse(Samples::rich, "back(1) STATE");
        Twins.refuse(Samples::fresh, "back(0) STATE", "back(1) STATE");
        Samples.fresh().due("keep(1) 0", "back(0) STATE", "back(1) 0", "text() 0", "back(1) STATE");
    }

    // ---- promise 37

    @Says(promise = 37, value = "The least NUMBER of a WORD whose VALUES by THE TEACHER and that of IMAGE k are not the same.")
    static void firstWordsThatDiffer() {
        // the empty word; a letter; the last letter
        Samples.told("letters 3;states 1;start 0 1;").due("keep(0) 0", "ends(0, 1) 0", "differ(0) 0", "keep(0) 1",
                "leads(0, 2, 0, 5) 0", "differ(0) 3", "leads(0, 1, 0, 5) 0", "differ(0) 2", "leads(0, 0, 0, 5) 0", "differ(0) 1");
        // as long as may be: four states that go round, four that end
        for (int l = 1; l <= 3; l++) {
            String x = String.valueOf((char) ('a' + l - 1));
            Run run = Samples.told("letters " + l + ";states 4;start 0 1;edge 0 " + x + " 1 1;edge 1 " + x + " 2 1;edge 2 "
                    + x + " 3 1;end 3 1;").calls("keep(1)");
            run.due("leads(3, " + (l - 1) + ", 0, 6) 0", "differ(1) " + new int[] {7, 254, 3279}[l - 1]);
            run.due("keep(0) 0", "back(1) 4", "differ(0) " + new int[] {7, 254, 3279}[l - 1], "differ(1) NONE");
        }
        // without states on one side, on the other
        Samples.fresh().due("keep(0) 0").calls("grow()", "begins(0, 1)", "leads(0, 1, 0, 1)", "grow()", "ends(1, 1)",
                "leads(0, 0, 1, 1)").due("differ(0) 1", "keep(1) 0", "back(0) 0", "differ(1) 1", "differ(0) NONE");
        // it is of the teachers alone
        Samples.learnt().due("keep(0) 0", "ask(6) 4", "learn() NONE", "differ(0) NONE", "rule(7) 3");
    }

    @Says(promise = 37, value = "BAD;")
    static void noOtherImageDiffers() {
        Twins.refuse(Samples::rich, "differ(-1) BAD", "differ(2) BAD", "differ(" + LEAST + ") BAD", "differ(" + GREATEST + ") BAD");
        Samples.fresh().due("differ(2) BAD", "differ(-1) BAD");
    }

    @Says(promise = 37, value = "STATE: there is none;")
    static void noImageToDifferFrom() {
        Twins.refuse(Samples::rich, "differ(1) STATE");
        Samples.fresh().due("differ(0) STATE", "differ(1) STATE", "keep(1) 0", "differ(0) STATE", "differ(1) NONE", "text() 0",
                "differ(1) STATE");
    }

    @Says(promise = 37, value = "NONE.")
    static void noWordDiffers() {
        Samples.fresh().due("keep(0) 0", "differ(0) NONE", "draw(0, 4) 1", "scale(0) 4", "differ(0) NONE", "ends(0, 1) 6",
                "begins(0, 1) 0", "differ(0) 0");
        Samples.learnt().due("keep(0) 0", "shrink() 2", "differ(0) NONE", "turn() 2", "differ(0) NONE", "grow() 3", "grow() 4",
                "begins(3, 1) 0", "differ(0) NONE", "begins(3, 0) 1", "ends(3, 1) 0", "differ(0) NONE", "begins(3, 1) 0",
                "differ(0) 0");
        Samples.told(Samples.RING).due("keep(0) 0", "shrink() 4", "differ(0) NONE", "back(0) 4", "differ(0) NONE");
        // four states that go round, four that do not, of which none ends
        Samples.told(Samples.RING).due("ends(2, 0) 1", "keep(0) 0", "leads(3, 0, 0, 0) 1", "differ(0) NONE", "ends(3, 1) 0",
                "differ(0) 3");
    }

    // ---- promise 38

    @Says(promise = 38, value = "A SHELF is a new row of n CELLS of nothing: 1.")
    static void shelvesOfNoneTo8Cells() {
        for (int n = 0; n <= 8; n++) {
            Run run = Samples.fresh().due("shelf(1, 2, " + n + ") 1", "rule(12) 1");
            for (int i = 0; i < 9; i++) {
                run.due("kind(1, " + i + ") " + (i < n ? "EMPTY" : "INDEX"));
            }
        }
        // a new row: of another lane, of other cells, of nothing
        Run run = Samples.fresh().due("shelf(0, 0, 8) 1");
        for (int i = 0; i < 8; i++) {
            run.due("lay(0, " + i + ", 0) 1");
        }
        run.due("shelf(0, 0, 3) 1", "kind(0, 0) EMPTY", "kind(0, 2) EMPTY", "kind(0, 3) INDEX", "shelf(0, 1, 8) 1");
        for (int i = 0; i < 8; i++) {
            run.due("kind(0, " + i + ") EMPTY", "lay(0, " + i + ", 0) STORE");
        }
        run.due("lay(0, 7, 2) 1", "shelf(0, 1, 8) 1", "kind(0, 7) EMPTY", "rule(12) 1");
        // the others stay
        Samples.rich().due("shelf(2, 2, 8) 1", "kind(0, 1) 0", "kind(1, 0) 1", "shelf(0, 2, 2) 1", "kind(0, 1) EMPTY",
                "kind(1, 2) 1", "rule(7) 2");
    }

    @Says(promise = 38, value = "BAD: also n above 8;")
    static void noOtherShelfLaneOrSize() {
        Twins.refuse(Samples::rich, "shelf(-1, 0, 0) BAD", "shelf(3, 0, 0) BAD", "shelf(0, -1, 0) BAD", "shelf(0, 3, 0) BAD",
                "shelf(0, 0, 9) BAD", "shelf(2, 2, 9) BAD", "shelf(0, 3, -1) BAD", "shelf(3, 0, -1) BAD");
        for (int off : new int[] {LEAST, GREATEST}) {
            Samples.rich().due("shelf(" + off + ", 0, 0) BAD", "shelf(0, " + off + ", 0) BAD", "kind(0, 1) 0");
        }
        Samples.rich().due("shelf(0, 0, " + GREATEST + ") BAD", "kind(0, 1) 0", "shelf(0, 0, 8) 1", "kind(0, 7) EMPTY");
    }

    @Says(promise = 38, value = "-16 (SIZE): n below 0.")
    static void noShelfBelow0() {
        Twins.refuse(Samples::rich, "shelf(0, 0, -1) SIZE", "shelf(2, 2, -1) SIZE", "shelf(1, 1, " + LEAST + ") SIZE",
                "shelf(0, 2, -8) SIZE");
        Samples.fresh().due("shelf(0, 0, -1) SIZE", "rule(12) 0", "kind(0, 0) NULL", "shelf(0, 0, 0) 1");
    }

    // ---- promise 39

    @Says(promise = 39, value = "CELL i of a SHELF becomes a copy of MACHINE m: 1.")
    static void copiesInTheFirstAndTheLastCell() {
        // in the first, in the last; a copy stays as it was
        Run run = Samples.learnt().due("shelf(2, 2, 8) 1", "lay(2, 0, 0) 1", "lay(2, 7, 1) 1", "lay(2, 3, 2) 1");
        run.due("rule(7) 2", "rule(5) 2", "scale(0) 2", "take(2, 2, 0) 2", "start(0, 0) 1", "edge(0, 0, 0, 1) 2");
        run.due("edge(0, 1, 0, 0) 0", "take(2, 2, 7) 2", "edge(0, 0, 0, 1) 1", "edge(0, 1, 0, 0) 4", "finish(0, 1) 2");
        run.due("take(2, 2, 3) 2", "edge(0, 1, 0, 0) 4", "kind(2, 1) EMPTY", "kind(2, 6) EMPTY");
        // in place of what was there; one without states, one of four
        run = Samples.fresh().due("shelf(0, 0, 1) 1", "lay(0, 0, 0) 1", "take(0, 0, 0) 0", "draw(9, 4) 1", "lay(0, 0, 0) 1",
                "keep(0) 0", "draw(1, 0) 1", "take(0, 0, 0) 4", "differ(0) NONE", "draw(1, 0) 1", "lay(0, 0, 0) 1");
        run.due("draw(9, 4) 1", "take(0, 0, 0) 0", "rule(2) 0");
        // a guess without states is a machine
        Samples.fresh().due("shelf(1, 1, 2) 1", "learn() NONE", "lay(1, 0, 1) 1", "lay(1, 1, 2) 1", "kind(1, 0) 1",
                "take(1, 1, 0) 0", "take(1, 1, 1) 0");
    }

    @Says(promise = 39, value = "BAD: k, m;")
    static void noOtherShelfOrMachineIsLaid() {
        Twins.refuse(Samples::rich, "lay(-1, 0, 0) BAD", "lay(3, 0, 0) BAD", "lay(0, 0, -1) BAD", "lay(0, 0, 3) BAD",
                "lay(2, 0, 3) BAD", "lay(0, 9, 3) BAD");
        for (int off : new int[] {LEAST, GREATEST}) {
            Samples.rich().due("lay(" + off + ", 0, 0) BAD", "lay(0, 0, " + off + ") BAD", "kind(0, 0) EMPTY");
        }
        Samples.rich().due("lay(0, 0, 0) 1", "lay(1, 1, 2) 1");
    }

    @Says(promise = 39, value = "STATE;")
    static void noGuessToLay() {
        Twins.refuse(Samples::richWithoutGuess, "lay(1, 1, 1) STATE", "lay(0, 0, 1) STATE", "lay(2, 0, 1) STATE",
                "lay(1, 3, 1) STATE");
        Samples.fresh().due("lay(0, 0, 1) STATE", "learn() NONE", "lay(0, 0, 1) NULL");
    }

    @Says(promise = 39, value = "-10 less the FAULT: NULL, INDEX, STORE.")
    static void faultsOfLaying() {
        Twins.refuse(Samples::rich, "lay(2, 0, 0) -11", "lay(2, 0, 1) -11", "lay(2, 0, 2) -11", "lay(2, -1, 0) -11",
                "lay(0, -1, 0) -13", "lay(0, 2, 0) -13", "lay(1, 3, 1) -13", "lay(1, 3, 0) -13", "lay(0, 0, 1) -14",
                "lay(0, 1, 2) -14", "lay(1, 0, 0) -14", "lay(1, 1, 0) -14");
        for (int off : new int[] {LEAST, GREATEST}) {
            Samples.rich().due("lay(0, " + off + ", 0) INDEX", "lay(1, " + off + ", 0) INDEX", "lay(2, " + off + ", 0) NULL");
        }
        Samples.rich().due("lay(0, 1, 0) 1", "lay(1, 2, 1) 1", "lay(0, 0, 0) 1");
    }

    // ---- promise 40

    @Says(promise = 40, value = "THE TEACHER becomes a copy of the MACHINE in CELL i of a SHELF, taken as of a lane (a CHANGE):"
            + " STATES.")
    static void machinesAreTaken() {
        Samples.learnt().due("shelf(0, 0, 8) 1", "lay(0, 7, 0) 1", "take(0, 0, 7) 2", "start(0, 0) 1", "rule(4) 2").anew();
        Samples.learnt().due("shelf(0, 0, 8) 1", "lay(0, 0, 0) 1", "ask(62) 7", "take(0, 2, 0) 2").anew();
        // one without states, one of four; what was beyond them is gone
        Samples.fresh().calls("shelf(1, 1, 1)", "lay(1, 0, 2)", "draw(12345, 4)", "learn()").due("take(1, 1, 0) 0", "rule(2) 0",
                "rule(4) 0").anew().due("grow() 1", "start(0, 0) 0", "finish(0, 0) 0", "edge(0, 0, 0, 0) 0");
        Samples.told(Samples.RING).due("shelf(2, 2, 1) 1", "lay(2, 0, 0) 1", "drop(0) 3", "take(2, 2, 0) 4", "rule(4) 4",
                "edge(0, 3, 0, 0) 1");
        // a copy: the cell stays as it was, and may be taken again
        Samples.learnt().due("shelf(1, 1, 1) 1", "lay(1, 0, 1) 1", "take(1, 1, 0) 2", "begins(0, 3) 1", "take(1, 2, 0) 2",
                "start(0, 0) 1", "kind(1, 0) 1");
    }

    @Says(promise = 40, value = "BAD: k, lane;")
    static void noOtherShelfOrLaneIsTaken() {
        Twins.refuse(Samples::rich, "take(-1, 0, 1) BAD", "take(3, 0, 1) BAD", "take(0, -1, 1) BAD", "take(0, 3, 1) BAD",
                "take(2, 3, 0) BAD", "take(0, 3, 9) BAD");
        for (int off : new int[] {LEAST, GREATEST}) {
            Samples.rich().due("take(" + off + ", 0, 1) BAD", "take(0, " + off + ", 1) BAD", "rule(7) 2");
        }
        Samples.rich().due("take(0, 0, 1) 2", "take(0, 2, 1) 2");
    }

    @Says(promise = 40, value = "-10 less the FAULT: NULL, CAST, INDEX, EMPTY.")
    static void faultsOfTaking() {
        Twins.refuse(Samples::rich, "take(2, 0, 0) -11", "take(2, 1, 0) -11", "take(2, 2, 0) -11", "take(2, 0, -1) -11",
                "take(0, 1, 1) -12", "take(1, 0, 0) -12", "take(0, 1, 0) -12", "take(1, 0, 3) -12", "take(0, 0, -1) -13",
                "take(0, 0, 2) -13", "take(0, 2, 2) -13", "take(1, 1, 3) -13", "take(0, 0, 0) -15", "take(0, 2, 0) -15",
                "take(1, 1, 1) -15");
        // one of any is none of told, none of made, whatever is in its cells
        Twins.refuse(() -> Samples.rich().calls("shelf(2, 2, 1)", "lay(2, 0, 0)"), "take(2, 0, 0) -12", "take(2, 1, 0) -12",
                "take(2, 0, 1) -12", "take(2, 2, 1) -13");
        for (int off : new int[] {LEAST, GREATEST}) {
            Samples.rich().due("take(0, 0, " + off + ") INDEX", "take(0, 1, " + off + ") CAST", "take(2, 2, " + off + ") NULL");
        }
        Samples.rich().due("take(0, 0, 1) 2", "take(0, 2, 1) 2", "take(1, 1, 0) 2", "take(1, 1, 2) 2", "take(1, 2, 2) 2");
    }

    // ---- promise 41

    @Says(promise = 41, value = "Of CELL i of a SHELF: 0 TOLD, 1 MADE.")
    static void kindsOfTheFirstAndTheLastCell() {
        Run run = Samples.learnt().due("shelf(2, 2, 8) 1", "lay(2, 0, 0) 1", "lay(2, 1, 1) 1", "lay(2, 7, 2) 1");
        run.due("kind(2, 0) 0", "kind(2, 1) 1", "kind(2, 7) 1", "lay(2, 7, 0) 1", "kind(2, 7) 0", "lay(2, 0, 2) 1",
                "kind(2, 0) 1");
        Samples.rich().due("kind(0, 1) 0", "kind(1, 0) 1", "kind(1, 2) 1");
    }

    @Says(promise = 41, value = "BAD: k;")
    static void noOtherShelfHasKinds() {
        Twins.refuse(Samples::rich, "kind(-1, 0) BAD", "kind(3, 0) BAD", "kind(3, 9) BAD", "kind(" + LEAST + ", 0) BAD",
                "kind(" + GREATEST + ", 0) BAD");
    }

    @Says(promise = 41, value = "-10 less the FAULT: NULL, INDEX, EMPTY.")
    static void faultsOfKinds() {
        Twins.refuse(Samples::rich, "kind(2, 0) -11", "kind(2, -1) -11", "kind(2, 8) -11", "kind(0, -1) -13", "kind(0, 2) -13",
                "kind(1, 3) -13", "kind(0, 0) -15", "kind(1, 1) -15");
        for (int off : new int[] {LEAST, GREATEST}) {
            Samples.rich().due("kind(0, " + off + ") INDEX", "kind(2, " + off + ") NULL");
        }
        Samples.fresh().due("shelf(0, 1, 0) 1", "kind(0, 0) INDEX", "shelf(0, 1, 1) 1", "kind(0, 0) EMPTY", "kind(0, 1) INDEX");
    }
}
