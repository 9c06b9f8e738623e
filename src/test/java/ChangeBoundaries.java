/** Promises 25 to 34: changes of THE TEACHER. */
final class ChangeBoundaries {
    private static final int LEAST = Integer.MIN_VALUE, GREATEST = Integer.MAX_VALUE;

    private ChangeBoundaries() {
    }

    private static Run fourStates() {
        return Samples.told("prime 97;letters 3;states 4;");
    }

    // ---- promise 25

    @Says(promise = 25, value = "START of a STATE becomes v (0 to P less 1): what it was.")
    static void startBecomes0ToPLess1() {
        fourStates().due("begins(0, 96) 0", "begins(3, 95) 0", "start(0, 0) 96", "start(0, 3) 95", "start(0, 1) 0",
                "start(0, 2) 0", "begins(0, 0) 96", "begins(3, 1) 95", "start(0, 0) 0", "start(0, 3) 1", "finish(0, 3) 0");
        Samples.told("prime 2;states 1;").due("begins(0, 1) 0", "begins(0, 2) BAD", "begins(0, 0) 1", "start(0, 0) 0");
        Samples.learnt().due("begins(0, 4) 1").anew().values("a", 3);
        Samples.learnt().due("begins(0, 1) 1").anew();
    }

    @Says(promise = 25, value = "BAD.")
    static void startOfNoStateOrResidue() {
        Twins.refuse(Samples::rich, "begins(-1, 0) BAD", "begins(2, 0) BAD", "begins(0, -1) BAD", "begins(0, 5) BAD",
                "begins(2, 5) BAD");
        Twins.refuse(Samples::fullOfAll, "begins(4, 0) BAD");
        for (int off : new int[] {LEAST, GREATEST}) {
            Samples.rich().due("begins(" + off + ", 0) BAD", "begins(0, " + off + ") BAD", "rule(7) 2");
        }
        Samples.fresh().due("begins(0, 0) BAD");
        fourStates().due("begins(0, 97) BAD", "begins(4, 0) BAD", "begins(3, 96) 0");
    }

    // ---- promise 26

    @Says(promise = 26, value = "END of a STATE becomes v: what it was.")
    static void endBecomes0ToPLess1() {
        fourStates().due("ends(0, 96) 0", "ends(3, 95) 0", "finish(0, 0) 96", "finish(0, 3) 95", "finish(0, 1) 0",
                "finish(0, 2) 0", "ends(0, 0) 96", "ends(3, 1) 95", "finish(0, 0) 0", "finish(0, 3) 1", "start(0, 3) 0");
        Samples.told("prime 2;states 1;").due("ends(0, 1) 0", "ends(0, 2) BAD", "ends(0, 0) 1", "finish(0, 0) 0");
        Samples.learnt().due("ends(1, 4) 1").anew().values("a", 3);
        Samples.learnt().due("ends(1, 1) 1").anew();
    }

    @Says(promise = 26, value = "BAD.")
    static void endOfNoStateOrResidue() {
        Twins.refuse(Samples::rich, "ends(-1, 0) BAD", "ends(2, 0) BAD", "ends(0, -1) BAD", "ends(0, 5) BAD", "ends(2, 5) BAD");
        Twins.refuse(Samples::fullOfAll, "ends(4, 0) BAD");
        for (int off : new int[] {LEAST, GREATEST}) {
            Samples.rich().due("ends(" + off + ", 0) BAD", "ends(0, " + off + ") BAD", "rule(7) 2");
        }
        Samples.fresh().due("ends(0, 0) BAD");
        fourStates().due("ends(0, 97) BAD", "ends(4, 0) BAD", "ends(3, 96) 0");
    }

    // ---- promise 27

    @Says(promise = 27, value = "WEIGHT from s by LETTER x to t becomes v: what it was.")
    static void weightBecomes0ToPLess1() {
        Run run = fourStates().due("leads(0, 0, 0, 96) 0", "leads(3, 2, 3, 95) 0", "leads(0, 2, 3, 94) 0");
        run.due("edge(0, 0, 0, 0) 96", "edge(0, 3, 2, 3) 95", "edge(0, 0, 2, 3) 94", "edge(0, 3, 2, 0) 0");
        run.due("leads(0, 0, 0, 0) 96", "leads(3, 2, 3, 1) 95", "edge(0, 0, 0, 0) 0", "edge(0, 3, 2, 3) 1");
        Samples.told("prime 2;letters 1;states 1;").due("leads(0, 0, 0, 1) 0", "leads(0, 0, 0, 2) BAD", "leads(0, 0, 0, 0) 1");
        Samples.learnt().due("leads(0, 0, 1, 4) 2").anew().values("a", 4);
        Samples.learnt().due("leads(0, 0, 1, 2) 2").anew();
    }

    @Says(promise = 27, value = "BAD.")
    static void weightOfNoStateLetterOrResidue() {
        Twins.refuse(Samples::rich, "leads(-1, 0, 0, 0) BAD", "leads(2, 0, 0, 0) BAD", "leads(0, -1, 0, 0) BAD",
                "leads(0, 2, 0, 0) BAD", "leads(0, 0, -1, 0) BAD", "leads(0, 0, 2, 0) BAD", "leads(0, 0, 0, -1) BAD",
                "leads(0, 0, 0, 5) BAD");
        Twins.refuse(Samples::fullOfAll, "leads(4, 0, 0, 0) BAD", "leads(0, 0, 4, 0) BAD");
        for (int off : new int[] {LEAST, GREATEST}) {
            Samples.rich().due("leads(" + off + ", 0, 0, 0) BAD", "leads(0, " + off + ", 0, 0) BAD",
                    "leads(0, 0, " + off + ", 0) BAD", "leads(0, 0, 0, " + off + ") BAD", "rule(7) 2");
        }
        Samples.fresh().due("leads(0, 0, 0, 0) BAD");
        fourStates().due("leads(3, 3, 3, 0) BAD", "leads(3, 2, 3, 97) BAD", "leads(3, 2, 3, 96) 0");
    }

    // ---- promise 28

    @Says(promise = 28, value = "A STATE more, all 0: how many there are.")
    static void growsFromNoneTo4() {
        Samples.fresh().due("grow() 1", "start(0, 0) 0", "finish(0, 0) 0", "edge(0, 0, 0, 0) 0", "edge(0, 0, 1, 0) 0",
                "start(0, 1) BAD", "grow() 2", "grow() 3", "grow() 4", "rule(2) 4", "start(0, 3) 0");
        Samples.learnt().due("grow() 3").anew().values("aa", 4).due("start(0, 0) 1", "edge(0, 0, 0, 1) 2", "rule(4) 2");
        // all 0, also where a state was that went
        Run run = Samples.told("letters 3;states 4;").calls("begins(3, 1)", "ends(3, 2)");
        for (int i = 0; i < 48; i++) {
            run.calls("leads(" + i / 12 + ", " + i / 4 % 3 + ", " + i % 4 + ", 3)");
        }
        run.due("drop(0) 3", "grow() 4", "start(0, 2) 1", "finish(0, 2) 2", "start(0, 3) 0", "finish(0, 3) 0");
        for (int i = 0; i < 48; i++) {
            int due = i / 12 == 3 || i % 4 == 3 ? 0 : 3;
            run.due("edge(0, " + i / 12 + ", " + i / 4 % 3 + ", " + i % 4 + ") " + due);
        }
    }

    @Says(promise = 28, value = "FULL.")
    static void noMoreThan4States() {
        Twins.refuse(Samples::fullOfAll, "grow() FULL");
        Samples.fullOfAll().due("rule(2) 4", "grow() FULL", "rule(2) 4", "drop(3) 3", "grow() 4", "grow() FULL");
        Samples.told("states 3;").due("grow() 4", "grow() FULL");
        Samples.told("states 4;").due("grow() FULL", "shrink() 0", "grow() 1");
    }

    // ---- promise 29

    private static Run numbered() {
        Run run = Samples.told("prime 97;letters 1;states 4;");
        for (int s = 0; s < 4; s++) {
            run.calls("begins(" + s + ", " + (s + 1) + ")", "ends(" + s + ", " + (s + 11) + ")");
            for (int t = 0; t < 4; t++) {
                run.calls("leads(" + s + ", 0, " + t + ", " + (10 * s + t + 21) + ")");
            }
        }
        return run;
    }

    @Says(promise = 29, value = "A STATE goes, those behind it are numbered one less: how many are left.")
    static void theFirstAndTheLastGo() {
        for (int gone = 0; gone < 4; gone++) {
            Run run = numbered().calls("learn()").due("drop(" + gone + ") 3").anew().due("rule(2) 3", "start(0, 3) BAD");
            for (int s = 0; s < 3; s++) {
                int was = s < gone ? s : s + 1;
                run.due("start(0, " + s + ") " + (was + 1), "finish(0, " + s + ") " + (was + 11));
                for (int t = 0; t < 3; t++) {
                    int to = t < gone ? t : t + 1;
                    run.due("edge(0, " + s + ", 0, " + t + ") " + (10 * was + to + 21));
                }
            }
        }
        numbered().due("drop(3) 3", "drop(2) 2", "drop(1) 1", "start(0, 0) 1", "drop(0) 0", "rule(2) 0", "value(0) 0");
        numbered().due("drop(0) 3", "drop(0) 2", "drop(0) 1", "start(0, 0) 4", "edge(0, 0, 0, 0) 54", "drop(0) 0");
    }

    @Says(promise = 29, value = "BAD.")
    static void noOtherStateGoes() {
        Twins.refuse(Samples::rich, "drop(-1) BAD", "drop(2) BAD", "drop(3) BAD", "drop(" + LEAST + ") BAD",
                "drop(" + GREATEST + ") BAD");
        Twins.refuse(Samples::fullOfAll, "drop(4) BAD");
        Samples.fresh().due("drop(0) BAD", "grow() 1", "drop(1) BAD", "drop(0) 0", "drop(0) BAD");
    }

    // ---- promise 30

    @Says(promise = 30, value = "Each WORD has the VALUE that it had turned round: START and END of each STATE change, WEIGHTS"
            + " are of the way back: STATES.")
    static void turnedWords() {
        Samples.fresh().calls("learn()").due("turn() 0").anew().due("value(0) 0");
        Run run = numbered().calls("learn()").due("turn() 4").anew();
        for (int s = 0; s < 4; s++) {
            run.due("start(0, " + s + ") " + (s + 11), "finish(0, " + s + ") " + (s + 1));
            for (int t = 0; t < 4; t++) {
                run.due("edge(0, " + s + ", 0, " + t + ") " + (10 * t + s + 21));
            }
        }
        run.due("turn() 4", "start(0, 3) 4", "finish(0, 0) 11", "edge(0, 0, 0, 3) 24", "edge(0, 3, 0, 0) 51");
        // the empty word and one of a letter are as they were; the longest is turned
        run = Samples.told("letters 3;states 4;start 0 1;edge 0 c 1 2;edge 1 b 2 1;edge 2 a 2 1;edge 2 c 3 1;end 3 3;end 0 1;");
        run.values("", 1).values("cbac", 6).values("cbaaaaaaaaac", 6).values("cabc", 0);
        run.due("turn() 4").values("", 1).values("cabc", 6).values("caaaaaaaaabc", 6).values("cbac", 0);
        run.due("rule(1) 3", "rule(2) 4");
    }

    // ---- promise 31

    @Says(promise = 31, value = "All STARTS are multiplied by v (0 to P less 1): STATES.")
    static void startsAreMultiplied() {
        Run run = numbered().calls("learn()").due("scale(96) 4").anew();
        run.due("start(0, 0) 96", "start(0, 1) 95", "start(0, 2) 94", "start(0, 3) 93", "finish(0, 3) 14");
        run.due("edge(0, 3, 0, 3) 54", "scale(1) 4", "start(0, 0) 96", "scale(96) 4", "start(0, 3) 4", "scale(0) 4");
        run.due("start(0, 0) 0", "start(0, 1) 0", "start(0, 2) 0", "start(0, 3) 0", "rule(4) 0", "finish(0, 0) 11");
        Samples.fresh().calls("learn()").due("scale(0) 0").anew().due("scale(6) 0");
        Samples.told("prime 2;states 1;start 0 1;").due("scale(1) 1", "start(0, 0) 1", "scale(0) 1", "start(0, 0) 0");
    }

    @Says(promise = 31, value = "BAD.")
    static void noOtherResidueMultiplies() {
        Twins.refuse(Samples::rich, "scale(-1) BAD", "scale(5) BAD", "scale(6) BAD", "scale(" + LEAST + ") BAD",
                "scale(" + GREATEST + ") BAD");
        Samples.fresh().due("scale(7) BAD", "scale(-1) BAD", "scale(6) 0");
        Samples.told("prime 97;").due("scale(97) BAD", "scale(96) 0");
        Samples.told("prime 2;").due("scale(2) BAD", "scale(1) 0");
    }

    // ---- promise 32

    @Says(promise = 32, value = "THE TEACHER becomes THE LEAST: STATES.")
    static void shrinksToNoneOrToAll() {
        Samples.fresh().calls("learn()").due("shrink() 0").anew();
        Samples.told("states 4;start 0 1;end 1 1;").calls("learn()").due("shrink() 0", "rule(2) 0", "start(0, 0) BAD").anew();
        // as many as there were: the states of the least, not those of before
        Samples.told("states 1;start 0 2;end 0 3;edge 0 b 0 4;").due("shrink() 1", "start(0, 0) 1", "finish(0, 0) 6",
                "edge(0, 0, 1, 0) 4", "edge(0, 0, 0, 0) 0");
        Run run = Samples.told(Samples.ABA).calls("learn()").due("shrink() 4").anew();
        run.due("start(0, 0) 1", "start(0, 3) 0", "finish(0, 3) 6", "edge(0, 0, 0, 1) 1", "edge(0, 2, 0, 3) 1");
        run.values("aba", 6).values("ab", 0).due("shrink() 4");
        // what was beyond them is gone
        Samples.told("states 4;start 3 2;end 3 3;edge 3 b 3 4;edge 0 a 3 1;").due("shrink() 1", "grow() 2", "start(0, 1) 0",
                "edge(0, 0, 0, 1) 0", "edge(0, 1, 1, 1) 0", "edge(0, 0, 1, 0) 4");
    }

    // ---- promise 33

    @Says(promise = 33, value = "STATES of THE TEACHER of IMAGE k come behind, with what they have; between those and others"
            + " WEIGHTS are 0: how many there are.")
    static void noneTo4StatesAreJoined() {
        Samples.fresh().due("keep(0) 0", "learn() NONE", "join(0) 0").anew();
        // four and none, none and four, two and two
        Samples.told("states 4;start 3 5;").calls("keep(0)", "draw(1, 0)", "keep(1)").due("join(0) 4", "start(0, 3) 5",
                "learn() NONE", "join(1) 4").anew().due("start(0, 3) 5");
        Run run = Samples.learnt().calls("keep(1)", "leads(0, 0, 1, 3)", "begins(1, 4)", "ends(0, 3)", "learn()");
        run.due("join(1) 4").anew().due("rule(2) 4", "rule(11) 1");
        int[] starts = {1, 4, 1, 0};
        int[] ends = {3, 1, 0, 1};
        int[][] weights = {{1, 3, 0, 0}, {0, 1, 0, 0}, {0, 0, 1, 2}, {0, 0, 0, 1}};
        for (int s = 0; s < 4; s++) {
            run.due("start(0, " + s + ") " + starts[s], "finish(0, " + s + ") " + ends[s]);
            for (int t = 0; t < 4; t++) {
                run.due("edge(0, " + s + ", 0, " + t + ") " + weights[s][t]);
                run.due("edge(0, " + s + ", 1, " + t + ") " + (s == t ? 1 : 0));
            }
        }
        // by the third letter, too
        Samples.told("letters 3;states 1;edge 0 c 0 6;").calls("keep(0)").due("join(0) 2", "edge(0, 0, 2, 0) 6",
                "edge(0, 1, 2, 1) 6", "edge(0, 0, 2, 1) 0", "edge(0, 1, 2, 0) 0", "join(0) 3", "join(0) 4", "join(0) FULL");
    }

    @Says(promise = 33, value = "BAD;")
    static void noOtherImageIsJoined() {
        Twins.refuse(Samples::rich, "join(-1) BAD", "join(2) BAD", "join(" + LEAST + ") BAD", "join(" + GREATEST + ") BAD");
        Samples.fresh().due("join(2) BAD", "join(-1) BAD");
    }

    @Says(promise = 33, value = "STATE: there is none;")
    static void noImageToJoin() {
        Twins.refuse(Samples::rich, "join(1) STATE");
        Twins.refuse(Samples::fullOfAll, "join(1) STATE");
        Samples.fresh().due("join(0) STATE", "join(1) STATE", "keep(1) 0", "join(0) STATE", "join(1) 0", "text() 0",
                "join(1) STATE");
    }

    @Says(promise = 33, value = "FULL: more than 4.")
    static void noMoreThan4StatesAreJoined() {
        Twins.refuse(Samples::fullOfAll, "join(0) FULL");
        Twins.refuse(() -> Samples.rich().calls("grow()", "learn()"), "join(0) FULL");
        Samples.rich().due("rule(2) 2", "join(0) 4", "join(0) FULL", "rule(2) 4");
        Samples.told("states 4;").due("keep(0) 0", "join(0) FULL", "drop(0) 3", "join(0) FULL", "drop(0) 2", "drop(0) 1",
                "join(0) FULL", "drop(0) 0", "join(0) 4");
    }

    // ---- promise 34

    private static final class Dice {
        private final int p;
        private long seed;

        Dice(int seed, int p) {
            this.seed = seed & 0xFFFFFFFFL;
            this.p = p;
        }

        int next() {
            seed = java.math.BigInteger.valueOf(seed).multiply(java.math.BigInteger.valueOf(1103515245L))
                    .add(java.math.BigInteger.valueOf(12345L)).mod(java.math.BigInteger.ONE.shiftLeft(32)).longValue();
            long got = seed % (1L << 31) / (1L << 16);
            return got / 128 % 2 == 0 ? 0 : (int) (got % p);
        }
    }

    private static void drawn(Run run, int p, int l, int seed, int n) {
        Dice dice = new Dice(seed, p);
        run.due("draw(" + seed + ", " + n + ") 1", "rule(2) " + n);
        for (int s = 0; s < n; s++) {
            run.due("start(0, " + s + ") " + dice.next(), "finish(0, " + s + ") " + dice.next());
            for (int x = 0; x < l; x++) {
                for (int t = 0; t < n; t++) {
                    run.due("edge(0, " + s + ", " + x + ", " + t + ") " + dice.next());
                }
            }
        }
    }

    @Says(promise = 34, value = "By a seed, with n STATES (0 to 4): to get, the seed becomes seed times 1103515245 and 12345;"
            + " bits 16 to 30 of it are got; a RESIDUE: got modulo P, but 0, if got by 128 (down) is even. STATE by STATE:"
            + " START, END, then LETTER by LETTER, to STATE by STATE, WEIGHT: 1.")
    static void seedsWrapAround() {
        int[] seeds = {0, 1, -1, 12345, LEAST, GREATEST, -12345, 65536, 1 << 30};
        for (int p : new int[] {2, 7, 97}) {
            for (int l = 1; l <= 3; l++) {
                for (int i = 0; i < seeds.length; i++) {
                    drawn(Samples.told("prime " + p + ";letters " + l + ";").calls("learn()"), p, l, seeds[i], 4);
                    drawn(Samples.told("prime " + p + ";letters " + l + ";").calls("learn()"), p, l, seeds[i], i % 4);
                }
            }
        }
        // in place of all that was: none are left
        Samples.learnt().due("draw(5, 0) 1").anew().due("rule(2) 0", "rule(4) 0", "grow() 1", "start(0, 0) 0",
                "finish(0, 0) 0", "edge(0, 0, 0, 0) 0");
        Run run = Samples.told("states 4;start 3 1;end 3 1;edge 3 a 3 1;edge 0 b 3 2;").calls("draw(7, 1)");
        run.due("grow() 2", "grow() 3", "grow() 4", "start(0, 3) 0", "finish(0, 3) 0", "edge(0, 3, 0, 3) 0",
                "edge(0, 0, 1, 3) 0");
    }

    @Says(promise = 34, value = "BAD.")
    static void noOtherNumberOfStatesIsDrawn() {
        Twins.refuse(Samples::rich, "draw(1, -1) BAD", "draw(1, 5) BAD", "draw(1, " + LEAST + ") BAD",
                "draw(1, " + GREATEST + ") BAD", "draw(-1, 5) BAD");
        Samples.rich().due("draw(1, 0) 1", "rule(2) 0", "draw(1, 4) 1", "rule(2) 4");
    }
}
