/**
 * Each promise of the document by itself: ordinary calls, its edges, wrong ones. The answers that
 * are due were worked out by hand from the document's words.
 */
public final class PromiseTest {
    private static final int BAD = -1, STATE = -2, FULL = -3, NONE = -4;
    private static final int NULL = -11, CAST = -12, INDEX = -13, STORE = -14, EMPTY = -15, SIZE = -16;

    /** Twice the a of a word, modulo 5: two states that are both needed. */
    private static final String COUNTS = "prime 5;states 2;start 0 1;end 1 1;edge 0 a 0 1;edge 0 b 0 1;"
            + "edge 1 a 1 1;edge 1 b 1 1;edge 0 a 1 2;";

    /** 1 for the words of no b, 2 to the c of a word, modulo 7, of three letters. */
    private static final String POWERS = "letters 3;states 1;start 0 1;end 0 1;edge 0 a 0 1;edge 0 c 0 2;";

    private static int wrong;
    private static int promise;

    private static void due(String call, long got, long want) {
        if (got != want) {
            wrong++;
            System.out.println("promise " + promise + ": " + call + " answered " + got + ", due is " + want);
        }
    }

    private static int read(WeightedWords x, String text) {
        for (char c : text.toCharArray()) {
            x.feed(c);
        }
        return x.text();
    }

    private static WeightedWords told(String text) {
        WeightedWords x = new WeightedWords();
        due("a text that is right", Math.min(0, read(x, text)), 0);
        return x;
    }

    /** One that has learnt all: two rounds, two prefixes, two suffixes. */
    private static WeightedWords learnt() {
        WeightedWords x = told(COUNTS);
        x.learn();
        x.learn();
        return x;
    }

    private static void word(WeightedWords x, String letters) {
        x.wipe();
        for (char c : letters.toCharArray()) {
            x.letter(c - 'a');
        }
    }

    private static int valueOf(WeightedWords x, int m, String letters) {
        word(x, letters);
        return x.value(m);
    }

    private static void dueAnew(String call, WeightedWords x) {
        due(call + ": prefixes", x.rule(5), 0);
        due(call + ": suffixes", x.rule(6), 1);
        due(call + ": suffix 0", x.suffix(0), 0);
        due(call + ": rounds", x.rule(7), 0);
        due(call + ": guess", x.rule(3), NONE);
        due(call + ": counter", x.counter(), STATE);
    }

    private static void dueAsLearnt(String call, WeightedWords x) {
        due(call + ": prefixes", x.rule(5), 2);
        due(call + ": suffixes", x.rule(6), 2);
        due(call + ": rounds", x.rule(7), 2);
        due(call + ": guess", x.rule(3), 2);
    }

    private static void aNewObject() {
        WeightedWords x = new WeightedWords();
        int[] rules = {7, 2, 0, NONE, 0, 0, 1, 0, 1, 0, 0, 0, 0};
        for (int what = 0; what < rules.length; what++) {
            due("rule(" + what + ")", x.rule(what), rules[what]);
        }
        due("fault()", x.fault(), 0);
        due("suffix(0)", x.suffix(0), 0);
        due("prefix(0)", x.prefix(0), NONE);
        due("value(0)", x.value(0), 0);
        due("value(1)", x.value(1), STATE);
        due("value(2)", x.value(2), 0);
        due("back(0)", x.back(0), STATE);
        due("back(1)", x.back(1), STATE);
        for (int k = 0; k < 3; k++) {
            due("kind(k, 0)", x.kind(k, 0), NULL);
        }
        due("wipe()", x.wipe(), 0);
        due("BAD", WeightedWords.BAD, BAD);
        due("STATE", WeightedWords.STATE, STATE);
        due("FULL", WeightedWords.FULL, FULL);
        due("NONE", WeightedWords.NONE, NONE);
    }

    private static void feed() {
        WeightedWords x = new WeightedWords();
        due("feed(-1)", x.feed(-1), BAD);
        due("feed(128)", x.feed(128), BAD);
        due("feed(0)", x.feed(0), 1);
        due("feed(127)", x.feed(127), 2);
        for (int i = 3; i <= 200; i++) {
            due("feed(32)", x.feed(32), i);
        }
        due("feed(32) on a full tape", x.feed(32), FULL);
        due("feed(128) on a full tape", x.feed(128), BAD);
        due("rule(10)", x.rule(10), 200);
    }

    private static void end() {
        WeightedWords x = new WeightedWords();
        due("end(0)", x.end(0), 0);
        due("end(1)", x.end(1), BAD);
        for (char c : "prime 5;garbage".toCharArray()) {
            x.feed(c);
        }
        due("end(-1)", x.end(-1), BAD);
        due("end(16)", x.end(16), BAD);
        due("end(15)", x.end(15), 15);
        due("end(8)", x.end(8), 15);
        due("rule(10)", x.rule(10), 8);
        due("text()", x.text(), 1);
        due("rule(0)", x.rule(0), 5);
    }

    private static void dueFault(String text, int place, int kind) {
        WeightedWords x = told("prime 11;letters 3;states 1;start 0 2;end 0 3;");
        x.letter(2);
        x.keep(1);
        x.shelf(2, 2, 1);
        x.learn();
        due("text of " + text, read(x, text), -10 - place);
        due("fault of " + text, x.fault(), kind);
        due("tape behind " + text, x.rule(10), 0);
        due("P behind " + text, x.rule(0), 11);
        due("L behind " + text, x.rule(1), 3);
        due("start behind " + text, x.start(0, 0), 2);
        due("rounds behind " + text, x.rule(7), 1);
        due("images behind " + text, x.rule(11), 1);
        due("shelves behind " + text, x.rule(12), 1);
        due("word behind " + text, x.wipe(), 1);
    }

    private static void dueLines(String text, int lines) {
        WeightedWords x = new WeightedWords();
        due("text of " + text, read(x, text), lines);
        due("fault of " + text, x.fault(), 0);
        due("tape behind " + text, x.rule(10), 0);
    }

    private static void textIsTaken() {
        dueLines("", 0);
        dueLines("    ", 0);
        dueLines("prime 5;letters 3;states 2;", 3);
        dueLines("  prime   5  ;  letters3;states   04  ;  ", 3);
        dueLines("edge0a0 1;states1;", 2);
        dueLines("states 1;edge 0 c 0 1;letters 3;", 3);
        dueLines("prime 97;", 1);
        dueLines("prime02;states0;letters1;", 3);
        dueLines("states 4;start 3 0;end 3 99;edge 3 b 3 00;", 4);
        WeightedWords x = told("states 1;start 0 99;end 0 3;end 0 4;edge 0 b 0 50;");
        due("start(0, 0)", x.start(0, 0), 1);
        due("finish(0, 0)", x.finish(0, 0), 4);
        due("edge(0, 0, 0, 0)", x.edge(0, 0, 0, 0), 0);
        due("edge(0, 0, 1, 0)", x.edge(0, 0, 1, 0), 1);
        x = told("states 1;start 0 99;end 0 99;edge 0 a 0 97;prime 97;");
        due("start(0, 0)", x.start(0, 0), 2);
        due("finish(0, 0)", x.finish(0, 0), 2);
        due("edge(0, 0, 0, 0)", x.edge(0, 0, 0, 0), 0);
        textTellsAll();
    }

    private static void textTellsAll() {
        WeightedWords x = told("prime 5;letters 3;states 1;start 0 1;end 0 1;");
        x.learn();
        x.letter(0);
        x.keep(0);
        x.keep(1);
        for (int k = 0; k < 3; k++) {
            x.shelf(k, 0, 3);
        }
        due("text() of nothing", x.text(), 0);
        int[] rules = {7, 2, 0, NONE, 0, 0, 1, 0, 1, 0, 0, 0, 0};
        for (int what = 0; what < rules.length; what++) {
            due("rule(" + what + ") behind it", x.rule(what), rules[what]);
        }
        due("wipe()", x.wipe(), 0);
        for (int k = 0; k < 2; k++) {
            due("back(k)", x.back(k), STATE);
        }
        for (int k = 0; k < 3; k++) {
            due("kind(k, 0)", x.kind(k, 0), NULL);
        }
        textOfAFullTape();
    }

    private static void textOfAFullTape() {
        dueFault("z".repeat(200), 0, 2);
        dueFault("1".repeat(200), 0, 1);
        dueFault(" ".repeat(199) + "1", 199, 2);
        dueFault(" ".repeat(193) + "prime 5", 200, 2);
        dueLines(" ".repeat(192) + "prime 5;", 1);
        dueLines(" ".repeat(200), 0);
    }

    private static void text() {
        textIsTaken();
        String[] latestLine = {"prime 5;", "letters 1;", "states 1;"};
        for (String line : latestLine) {
            dueFault(line + line, line.length(), 4);
            dueFault(line + " " + line.substring(0, line.indexOf(' ')) + "@", line.length() + 1, 4);
        }
        dueFault("start 0 1;", 10, 5);
        dueFault("states 1;end 1 1; ", 18, 5);
        dueFault("states 2;edge 2 a 1 1;", 22, 5);
        dueFault("states 2;edge 1 a 2 1;", 22, 5);
        dueFault("states 1;edge 0 c 0 1;", 22, 5);
        dueFault("letters 1;states 1;edge 0 b 0 1;", 32, 5);
        dueFault("edge 0 c 0 1;prime 4;", 19, 3);
    }

    private static void fault() {
        dueFault("Prime 5;", 0, 1);
        dueFault("prime\t5;", 5, 1);
        dueFault("prime @", 6, 1);
        dueFault("prime 100;", 6, 1);
        dueFault(" 1000", 1, 1);
        dueFault("prime 5;.", 8, 1);
        dueFault("prime 5", 7, 2);
        dueFault("prime 5  ", 9, 2);
        dueFault("prime", 5, 2);
        dueFault("prime;", 5, 2);
        dueFault("prime x;", 6, 2);
        dueFault("primes 5;", 0, 2);
        dueFault("xrime 5;", 0, 2);
        dueFault("z", 0, 2);
        dueFault("zz", 0, 2);
        dueFault("prime z", 6, 2);
        dueFault("5;", 0, 2);
        dueFault(";", 0, 2);
        dueFault("prime 5;;", 8, 2);
        dueFault("prime 5 5;", 8, 2);
        dueFault("edge 0a01;", 9, 2);
        dueFault("edge 0 d 0 1;", 7, 2);
        dueFault("edge 0 aa 0 1;", 7, 2);
        dueFault("edge 0 1 0 1;", 7, 2);
        dueFault("a 1;", 0, 2);
        dueFault("prime 9;", 6, 3);
        dueFault("prime 0;", 6, 3);
        dueFault("prime 1;", 6, 3);
        dueFault("prime 98;", 6, 3);
        dueFault("prime 4 @", 6, 3);
        dueFault("letters 0;", 8, 3);
        dueFault("letters 4;", 8, 3);
        dueFault("states 5;", 7, 3);
        dueFault("start 4 1;", 6, 3);
        dueFault("end 10 1;", 4, 3);
        dueFault("edge 4 a 0 1;", 5, 3);
        dueFault("edge 0 a 4 1;", 9, 3);
        WeightedWords x = new WeightedWords();
        read(x, "prime 4;");
        due("fault()", x.fault(), 3);
        due("fault() again", x.fault(), 3);
        x.text();
        due("fault() of a later text", x.fault(), 0);
    }

    private static void rule() {
        WeightedWords x = learnt();
        x.keep(1);
        x.shelf(0, 0, 0);
        x.shelf(2, 1, 4);
        x.feed(65);
        int[] rules = {5, 2, 2, 2, 2, 2, 2, 2, 1, 8, 1, 1, 2};
        for (int what = 0; what < rules.length; what++) {
            due("rule(" + what + ")", x.rule(what), rules[what]);
        }
        due("rule(-1)", x.rule(-1), BAD);
        due("rule(13)", x.rule(13), BAD);
        x = told(COUNTS);
        due("rule(8) of a table without a row", x.rule(8), 1);
        x.learn();
        due("rule(8) when the counter has come", x.rule(8), 0);
        due("rule(9) without prefixes", x.rule(9), 0);
        x = told(POWERS);
        x.close();
        x.ask(10);
        // the empty word, a, b, c, each alone and behind these a, ba
        due("rule(6)", x.rule(6), 3);
        due("rule(9)", x.rule(9), 10);
        x = told("states 3;start 0 1;end 2 1;end 1 1;");
        due("rule(2)", x.rule(2), 3);
        due("rule(4)", x.rule(4), 0);
    }

    private static void start() {
        WeightedWords x = told(COUNTS);
        due("start(0, 0)", x.start(0, 0), 1);
        due("start(0, 1)", x.start(0, 1), 0);
        due("start(0, 2)", x.start(0, 2), BAD);
        due("start(0, -1)", x.start(0, -1), BAD);
        due("start(-1, 0)", x.start(-1, 0), BAD);
        due("start(3, 0)", x.start(3, 0), BAD);
        due("start(1, 9)", x.start(1, 9), STATE);
        due("start(2, 0)", x.start(2, 0), 1);
        due("start(2, 1)", x.start(2, 1), 0);
        due("start(2, 2)", x.start(2, 2), BAD);
        x.learn();
        due("start(1, 0) of a guess without states", x.start(1, 0), BAD);
        x.learn();
        due("start(1, 0)", x.start(1, 0), 1);
        due("start(1, 1)", x.start(1, 1), 0);
        due("start(1, 2)", x.start(1, 2), BAD);
    }

    private static void finish() {
        WeightedWords x = told(COUNTS);
        due("finish(0, 0)", x.finish(0, 0), 0);
        due("finish(0, 1)", x.finish(0, 1), 1);
        due("finish(0, 2)", x.finish(0, 2), BAD);
        due("finish(0, -1)", x.finish(0, -1), BAD);
        due("finish(-1, 0)", x.finish(-1, 0), BAD);
        due("finish(3, 0)", x.finish(3, 0), BAD);
        due("finish(1, -9)", x.finish(1, -9), STATE);
        due("finish(2, 0)", x.finish(2, 0), 0);
        due("finish(2, 1)", x.finish(2, 1), 2);
        x = learnt();
        due("finish(1, 0)", x.finish(1, 0), 0);
        due("finish(1, 1)", x.finish(1, 1), 2);
        due("finish(1, 2)", x.finish(1, 2), BAD);
    }

    private static void dueEdges(WeightedWords x, int m, int[] weights) {
        for (int i = 0; i < 8; i++) {
            due("edge " + i + " of machine " + m, x.edge(m, i / 4, i / 2 % 2, i % 2), weights[i]);
        }
    }

    private static void edge() {
        WeightedWords x = told(COUNTS);
        dueEdges(x, 0, new int[] {1, 2, 1, 0, 0, 1, 0, 1});
        due("edge(1, 0, 0, 0)", x.edge(1, 0, 0, 0), STATE);
        due("edge(1, 9, 9, 9)", x.edge(1, 9, 9, 9), STATE);
        due("edge(3, 0, 0, 0)", x.edge(3, 0, 0, 0), BAD);
        due("edge(-1, 0, 0, 0)", x.edge(-1, 0, 0, 0), BAD);
        due("edge(0, 2, 0, 0)", x.edge(0, 2, 0, 0), BAD);
        due("edge(0, -1, 0, 0)", x.edge(0, -1, 0, 0), BAD);
        due("edge(0, 0, 2, 0)", x.edge(0, 0, 2, 0), BAD);
        due("edge(0, 0, -1, 0)", x.edge(0, 0, -1, 0), BAD);
        due("edge(0, 0, 0, 2)", x.edge(0, 0, 0, 2), BAD);
        due("edge(0, 0, 0, -1)", x.edge(0, 0, 0, -1), BAD);
        dueEdges(x, 2, new int[] {0, 1, 1, 0, 4, 2, 0, 1});
        dueEdges(learnt(), 1, new int[] {0, 1, 1, 0, 4, 2, 0, 1});
    }

    private static void letter() {
        WeightedWords x = new WeightedWords();
        due("letter(-1)", x.letter(-1), BAD);
        due("letter(2)", x.letter(2), BAD);
        for (int i = 1; i <= 12; i++) {
            due("letter(1)", x.letter(i % 2), i);
        }
        due("letter(0) behind 12", x.letter(0), FULL);
        due("letter(2) behind 12", x.letter(2), BAD);
        x = told("letters 1;");
        due("letter(1) of one", x.letter(1), BAD);
        x = told("letters 3;");
        due("letter(2) of three", x.letter(2), 1);
    }

    private static void wipe() {
        WeightedWords x = told(COUNTS);
        x.letter(0);
        x.letter(0);
        due("value(0)", x.value(0), 4);
        due("wipe()", x.wipe(), 2);
        due("value(0) of the empty word", x.value(0), 0);
        due("wipe()", x.wipe(), 0);
        due("letter(0)", x.letter(0), 1);
    }

    private static void value() {
        WeightedWords x = learnt();
        String[] words = {"", "a", "b", "aab", "babab", "aaaaaa", "aaaaaaaaaaaa", "abbbbbbbbbba"};
        int[] values = {0, 2, 0, 4, 4, 2, 4, 4};
        for (int i = 0; i < words.length; i++) {
            for (int m = 0; m < 3; m++) {
                due("value(" + m + ") of " + words[i], valueOf(x, m, words[i]), values[i]);
            }
        }
        due("value(-1)", x.value(-1), BAD);
        due("value(3)", x.value(3), BAD);
        x.turn();
        due("value(1)", x.value(1), STATE);
        x = told("letters 3;states 2;start 0 1;end 1 1;edge 0 a 1 2;edge 1 b 0 3;edge 0 c 0 4;");
        due("value of ab a", valueOf(x, 0, "aba"), 2 * 3 * 2 % 7);
        due("value of cca", valueOf(x, 0, "cca"), 4 * 4 * 2 % 7);
        due("value of ba", valueOf(x, 0, "ba"), 0);
        due("value of ab", valueOf(x, 0, "ab"), 0);
    }

    private static void dueSpaces(WeightedWords x, int forward, int backward, int all) {
        due("space(0, 0)", x.space(0, 0), forward);
        due("space(0, 1)", x.space(0, 1), backward);
        due("space(0, 2)", x.space(0, 2), all);
    }

    private static void space() {
        WeightedWords x = new WeightedWords();
        dueSpaces(x, 0, 0, 0);
        read(x, "states 3;start 0 1;end 1 1;end 2 1;edge 0 a 1 1;edge 0 b 2 1;");
        dueSpaces(x, 3, 2, 2);
        x.turn();
        dueSpaces(x, 2, 3, 2);
        due("space(2, 0)", x.space(2, 0), 2);
        due("space(2, 1)", x.space(2, 1), 2);
        due("space(2, 2)", x.space(2, 2), 2);
        due("space(1, 0)", x.space(1, 0), STATE);
        due("space(1, 3)", x.space(1, 3), BAD);
        due("space(0, 3)", x.space(0, 3), BAD);
        due("space(0, -1)", x.space(0, -1), BAD);
        due("space(3, 0)", x.space(3, 0), BAD);
        due("space(-1, 0)", x.space(-1, 0), BAD);
        x.learn();
        due("space(1, 0) of a guess without states", x.space(1, 0), 0);
        due("space(1, 2) of a guess without states", x.space(1, 2), 0);
        read(x, "states 4;start 0 1;edge 0 a 1 1;edge 1 a 2 1;edge 2 a 3 1;end 3 1;");
        dueSpaces(x, 4, 4, 4);
        x.begins(0, 0);
        dueSpaces(x, 0, 4, 0);
        read(x, "states 2;start 0 1;start 1 1;end 0 3;end 1 4;");
        dueSpaces(x, 1, 1, 0);
    }

    private static void dueShare(WeightedWords x, int n, int zeros, int words) {
        due("share(0, " + n + ")", x.share(0, n), Float.floatToRawIntBits((float) zeros / (float) words));
    }

    private static void share() {
        WeightedWords x = told(POWERS);
        due("share(0, 1)", x.share(0, 1), 1051372203);
        int words = 1;
        int some = 1;
        for (int n = 0; n <= 6; n++) {
            dueShare(x, n, words - some, words);
            words *= 3;
            some *= 2;
        }
        due("share(2, 6)", x.share(2, 6), Float.floatToRawIntBits(665f / 729f));
        due("share(0, 7)", x.share(0, 7), BAD);
        due("share(0, -1)", x.share(0, -1), BAD);
        due("share(3, 0)", x.share(3, 0), BAD);
        due("share(-1, 0)", x.share(-1, 0), BAD);
        due("share(1, 7)", x.share(1, 7), BAD);
        due("share(1, 6)", x.share(1, 6), STATE);
        x.learn();
        due("share(1, 2)", x.share(1, 2), Float.floatToRawIntBits(5f / 9f));
        x = new WeightedWords();
        due("share without states", x.share(0, 6), 1065353216);
        due("share without states of the empty word", x.share(0, 0), 1065353216);
        x = told("letters 1;states 1;start 0 1;end 0 1;edge 0 a 0 1;");
        due("share of none", x.share(0, 6), 0);
    }

    private static void mean() {
        WeightedWords x = told(POWERS);
        // words of n letters, k of them c, no b: n over k of them, of 1, 2, 4, 1, 2, 4, 1
        int[] sums = {1, 3, 9, 20, 39, 75, 148};
        int words = 1;
        for (int n = 0; n <= 6; n++) {
            due("mean(0, " + n + ")", x.mean(0, n), Double.doubleToRawLongBits((double) sums[n] / words));
            words *= 3;
        }
        due("mean(2, 6)", x.mean(2, 6), Double.doubleToRawLongBits(148.0 / 729));
        due("mean(0, 7)", x.mean(0, 7), BAD);
        due("mean(0, -1)", x.mean(0, -1), BAD);
        due("mean(3, 0)", x.mean(3, 0), BAD);
        due("mean(-1, 0)", x.mean(-1, 0), BAD);
        due("mean(1, 9)", x.mean(1, 9), BAD);
        due("mean(1, 0)", x.mean(1, 0), STATE);
        x = new WeightedWords();
        due("mean without states", x.mean(0, 5), 0);
        x = told("prime 97;letters 1;states 1;start 0 96;end 0 1;edge 0 a 0 1;");
        due("mean of 96", x.mean(0, 3), Double.doubleToRawLongBits(96.0));
        x = told("letters 3;states 1;start 0 1;end 0 1;edge 0 b 0 1;");
        due("mean of one word in 729", x.mean(0, 6), Double.doubleToRawLongBits(1.0 / 729));
        due("share of one word in 729", x.share(0, 6), Float.floatToRawIntBits(728f / 729f));
        x.leads(0, 0, 0, 1);
        x.leads(0, 2, 0, 1);
        due("mean of 1", x.mean(0, 6), Double.doubleToRawLongBits(1.0));
        x.ends(0, 2);
        due("mean of 2", x.mean(0, 6), Double.doubleToRawLongBits(2.0));
    }

    private static void prefix() {
        WeightedWords x = told(COUNTS);
        due("prefix(0)", x.prefix(0), NONE);
        due("prefix(-1)", x.prefix(-1), BAD);
        x = learnt();
        due("prefix(0)", x.prefix(0), 0);
        due("prefix(1)", x.prefix(1), 1);
        due("prefix(2)", x.prefix(2), NONE);
        x = told("states 3;start 0 1;end 0 1;end 1 3;end 2 2;edge 0 b 1 1;edge 1 a 2 1;");
        x.ask(1);
        x.ask(5);
        due("close()", x.close(), 3);
        // b comes to the second state, ba, the word of number 5, to the third
        due("prefix(1)", x.prefix(1), 2);
        due("prefix(2)", x.prefix(2), 5);
    }

    private static void suffix() {
        WeightedWords x = told(COUNTS);
        due("suffix(0)", x.suffix(0), 0);
        due("suffix(1)", x.suffix(1), NONE);
        due("suffix(-1)", x.suffix(-1), BAD);
        x.learn();
        due("suffix(1)", x.suffix(1), 1);
        x.ask(13);
        // of bba, the word of number 13, the endings a, ba, bba: a is there
        due("suffix(2)", x.suffix(2), 5);
        due("suffix(3)", x.suffix(3), 13);
        due("suffix(4)", x.suffix(4), NONE);
    }

    private static void cell() {
        WeightedWords x = told(COUNTS);
        due("cell(0, 0) without rows", x.cell(0, 0), BAD);
        x = learnt();
        int[][] cells = {{0, 2}, {2, 4}, {2, 4}, {0, 2}, {4, 1}, {2, 4}};
        for (int r = 0; r < 6; r++) {
            for (int c = 0; c < 2; c++) {
                due("cell(" + r + ", " + c + ")", x.cell(r, c), cells[r][c]);
            }
        }
        due("cell(6, 0)", x.cell(6, 0), BAD);
        due("cell(-1, 0)", x.cell(-1, 0), BAD);
        due("cell(0, 2)", x.cell(0, 2), BAD);
        due("cell(0, -1)", x.cell(0, -1), BAD);
    }

    private static void part() {
        WeightedWords x = told(COUNTS);
        due("part(0, 0) without rows", x.part(0, 0), BAD);
        x = learnt();
        int[][] parts = {{1, 0}, {0, 1}, {0, 1}, {1, 0}, {4, 2}, {0, 1}};
        for (int r = 0; r < 6; r++) {
            for (int j = 0; j < 2; j++) {
                due("part(" + r + ", " + j + ")", x.part(r, j), parts[r][j]);
            }
        }
        due("part(6, 0)", x.part(6, 0), BAD);
        due("part(-1, 0)", x.part(-1, 0), BAD);
        due("part(0, 2)", x.part(0, 2), BAD);
        due("part(0, -1)", x.part(0, -1), BAD);
        x.ends(0, 1);
        x.close();
        due("part(1, 0) by one column", x.part(1, 0), 3);
        x.ask(1);
        due("part(1, 0) by two columns", x.part(1, 0), NONE);
        due("part(1, 1)", x.part(1, 1), BAD);
        due("part(2, 0)", x.part(2, 0), 1);
    }

    private static void close() {
        WeightedWords x = told(COUNTS);
        due("close() without values", x.close(), 0);
        due("rule(5)", x.rule(5), 0);
        x.ask(1);
        due("rule(8)", x.rule(8), 0);
        due("close()", x.close(), 2);
        due("rule(8)", x.rule(8), 1);
        due("close() again", x.close(), 0);
        due("rule(7)", x.rule(7), 0);
        due("rule(3)", x.rule(3), NONE);
        x.ends(0, 1);
        due("close() by one column", x.close(), 1);
        x.ask(1);
        due("close() by two columns", x.close(), 1);
        due("prefix(1)", x.prefix(1), 1);
    }

    private static void learn() {
        WeightedWords x = told(COUNTS);
        due("learn()", x.learn(), 1);
        due("guess", x.rule(3), 0);
        due("rounds", x.rule(7), 1);
        due("suffixes", x.rule(6), 2);
        due("learn()", x.learn(), NONE);
        due("guess", x.rule(3), 2);
        due("learn()", x.learn(), NONE);
        due("rounds", x.rule(7), 3);
        due("suffixes", x.rule(6), 2);
        x = new WeightedWords();
        due("learn() of no states", x.learn(), NONE);
        due("guess of no states", x.rule(3), 0);
        // the one word of some value is aba, of number 9: all its endings come
        x = told("states 4;start 0 1;edge 0 a 1 1;edge 1 b 2 1;edge 2 a 3 1;end 3 6;");
        due("learn()", x.learn(), 9);
        int[] suffixes = {0, 1, 5, 9};
        for (int i = 0; i < 4; i++) {
            due("suffix(" + i + ")", x.suffix(i), suffixes[i]);
        }
        due("learn()", x.learn(), NONE);
        due("prefixes", x.rule(5), 4);
        int[] prefixes = {0, 1, 4, 9};
        for (int i = 0; i < 4; i++) {
            due("prefix(" + i + ")", x.prefix(i), prefixes[i]);
        }
    }

    private static void counter() {
        WeightedWords x = told(COUNTS);
        due("counter() without a guess", x.counter(), STATE);
        x.close();
        due("counter() of a closed table", x.counter(), STATE);
        x.learn();
        due("counter()", x.counter(), 1);
        x.close();
        due("counter() of the same guess", x.counter(), 1);
        x.learn();
        due("counter()", x.counter(), NONE);
        due("rounds", x.rule(7), 2);
        // the first word of some value is bbb
        x = told("prime 2;states 4;start 0 1;edge 0 b 1 1;edge 1 b 2 1;edge 2 b 3 1;edge 3 a 3 1;end 3 1;");
        x.learn();
        due("counter()", x.counter(), 14);
    }

    private static void ask() {
        WeightedWords x = told("letters 3;");
        due("ask(-1)", x.ask(-1), BAD);
        due("ask(364)", x.ask(364), BAD);
        due("ask(0)", x.ask(0), 1);
        due("ask(363)", x.ask(363), 6);
        due("ask(242)", x.ask(242), 11);
        due("ask(121)", x.ask(121), 16);
        due("ask(167)", x.ask(167), 20);
        due("ask(167) again", x.ask(167), 20);
        due("ask(261)", x.ask(261), 24);
        due("ask(0) of 24", x.ask(0), 24);
        due("ask(7) of 24", x.ask(7), FULL);
        due("ask(364) of 24", x.ask(364), BAD);
        due("rule(6)", x.rule(6), 24);
        due("suffix(24)", x.suffix(24), NONE);
        // the last that came is bcabc, of which c was there: bc is the first of the new ones
        due("suffix(20)", x.suffix(20), 9);
        x = told("letters 1;");
        due("ask(6) of one letter", x.ask(6), BAD);
        due("ask(5) of one letter", x.ask(5), 6);
        x = told("");
        due("ask(63) of two letters", x.ask(63), BAD);
        due("ask(62) of two letters", x.ask(62), 6);
        x = learnt();
        due("ask(2)", x.ask(2), 3);
        due("guess", x.rule(3), 2);
        due("rounds", x.rule(7), 2);
    }

    private static void basis() {
        WeightedWords x = told(COUNTS);
        due("basis(0)", x.basis(0), 0);
        due("basis(1)", x.basis(1), 1);
        due("basis(2)", x.basis(2), NONE);
        due("basis(-1)", x.basis(-1), BAD);
        x = new WeightedWords();
        due("basis(0) without values", x.basis(0), NONE);
        // ba alone has a value: behind the empty word, b, ba all is their own
        x = told("states 3;start 0 1;edge 0 b 1 1;edge 1 a 2 1;end 2 1;");
        due("basis(1)", x.basis(1), 2);
        due("basis(2)", x.basis(2), 5);
        due("rule(4)", x.rule(4), 3);
        x.begins(0, 0);
        due("basis(0) of a changed teacher", x.basis(0), NONE);
    }

    private static void begins() {
        WeightedWords x = learnt();
        due("begins(2, 0)", x.begins(2, 0), BAD);
        due("begins(-1, 0)", x.begins(-1, 0), BAD);
        due("begins(0, 5)", x.begins(0, 5), BAD);
        due("begins(0, -1)", x.begins(0, -1), BAD);
        dueAsLearnt("begins refused", x);
        due("begins(0, 3)", x.begins(0, 3), 1);
        dueAnew("begins", x);
        due("start(0, 0)", x.start(0, 0), 3);
        due("value of a", valueOf(x, 0, "a"), 6 % 5);
        x.learn();
        due("begins(0, 3) as it is", x.begins(0, 3), 3);
        dueAnew("begins as it is", x);
    }

    private static void ends() {
        WeightedWords x = learnt();
        due("ends(2, 0)", x.ends(2, 0), BAD);
        due("ends(-1, 0)", x.ends(-1, 0), BAD);
        due("ends(0, 5)", x.ends(0, 5), BAD);
        due("ends(0, -1)", x.ends(0, -1), BAD);
        dueAsLearnt("ends refused", x);
        due("ends(1, 4)", x.ends(1, 4), 1);
        dueAnew("ends", x);
        due("finish(0, 1)", x.finish(0, 1), 4);
        due("value of a", valueOf(x, 0, "a"), 8 % 5);
        x.learn();
        due("ends(0, 0) as it is", x.ends(0, 0), 0);
        dueAnew("ends as it is", x);
    }

    private static void leads() {
        WeightedWords x = learnt();
        due("leads(2, 0, 0, 0)", x.leads(2, 0, 0, 0), BAD);
        due("leads(-1, 0, 0, 0)", x.leads(-1, 0, 0, 0), BAD);
        due("leads(0, 2, 0, 0)", x.leads(0, 2, 0, 0), BAD);
        due("leads(0, -1, 0, 0)", x.leads(0, -1, 0, 0), BAD);
        due("leads(0, 0, 2, 0)", x.leads(0, 0, 2, 0), BAD);
        due("leads(0, 0, -1, 0)", x.leads(0, 0, -1, 0), BAD);
        due("leads(0, 0, 0, 5)", x.leads(0, 0, 0, 5), BAD);
        due("leads(0, 0, 0, -1)", x.leads(0, 0, 0, -1), BAD);
        dueAsLearnt("leads refused", x);
        due("leads(0, 0, 1, 4)", x.leads(0, 0, 1, 4), 2);
        dueAnew("leads", x);
        dueEdges(x, 0, new int[] {1, 4, 1, 0, 0, 1, 0, 1});
        due("value of a", valueOf(x, 0, "a"), 4);
        x.learn();
        due("leads(1, 1, 0, 0) as it is", x.leads(1, 1, 0, 0), 0);
        dueAnew("leads as it is", x);
    }

    private static void grow() {
        WeightedWords x = learnt();
        due("grow()", x.grow(), 3);
        dueAnew("grow", x);
        due("grow()", x.grow(), 4);
        x.learn();
        due("grow() of 4", x.grow(), FULL);
        due("rounds", x.rule(7), 1);
        due("rule(2)", x.rule(2), 4);
        for (int s = 0; s < 4; s++) {
            due("start(0, 3)", x.start(0, 3), 0);
            due("finish(0, 3)", x.finish(0, 3), 0);
            for (int letter = 0; letter < 2; letter++) {
                due("edge to 3", x.edge(0, s, letter, 3), 0);
                due("edge from 3", x.edge(0, 3, letter, s), 0);
            }
        }
        due("value of aa", valueOf(x, 0, "aa"), 4);
        growAgain(x);
    }

    private static void growAgain(WeightedWords x) {
        x.begins(3, 1);
        x.ends(3, 1);
        for (int i = 0; i < 32; i++) {
            x.leads(i / 8, i / 4 % 2, i % 4, 1);
        }
        x.drop(1);
        x.grow();
        due("a state that grows again: START", x.start(0, 3), 0);
        due("a state that grows again: END", x.finish(0, 3), 0);
        for (int i = 0; i < 32; i++) {
            int weight = i / 8 == 3 || i % 4 == 3 ? 0 : 1;
            due("a state that grows again: WEIGHT " + i, x.edge(0, i / 8, i / 4 % 2, i % 4), weight);
        }
    }

    private static void drop() {
        WeightedWords x = learnt();
        due("drop(2)", x.drop(2), BAD);
        due("drop(-1)", x.drop(-1), BAD);
        dueAsLearnt("drop refused", x);
        x = told("letters 1;states 3;start 0 1;start 1 2;start 2 3;end 0 4;end 1 5;end 2 6;edge 0 a 1 1;"
                + "edge 1 a 0 2;edge 1 a 2 3;edge 2 a 0 4;edge 2 a 2 5;edge 0 a 2 6;");
        x.learn();
        due("drop(1)", x.drop(1), 2);
        dueAnew("drop", x);
        due("start(0, 0)", x.start(0, 0), 1);
        due("start(0, 1)", x.start(0, 1), 3);
        due("finish(0, 0)", x.finish(0, 0), 4);
        due("finish(0, 1)", x.finish(0, 1), 6);
        due("edge(0, 0, 0, 0)", x.edge(0, 0, 0, 0), 0);
        due("edge(0, 0, 0, 1)", x.edge(0, 0, 0, 1), 6);
        due("edge(0, 1, 0, 0)", x.edge(0, 1, 0, 0), 4);
        due("edge(0, 1, 0, 1)", x.edge(0, 1, 0, 1), 5);
        due("edge(0, 2, 0, 0)", x.edge(0, 2, 0, 0), BAD);
        due("drop(0)", x.drop(0), 1);
        due("start(0, 0)", x.start(0, 0), 3);
        due("edge(0, 0, 0, 0)", x.edge(0, 0, 0, 0), 5);
        due("drop(0)", x.drop(0), 0);
        due("drop(0)", x.drop(0), BAD);
    }

    private static void turn() {
        WeightedWords x = told("states 3;start 0 1;edge 0 b 1 2;edge 1 a 2 3;edge 0 a 0 1;end 2 4;");
        x.learn();
        due("value of aba", valueOf(x, 0, "aba"), 24 % 7);
        due("turn()", x.turn(), 3);
        dueAnew("turn", x);
        due("start(0, 2)", x.start(0, 2), 4);
        due("finish(0, 0)", x.finish(0, 0), 1);
        due("edge(0, 1, 1, 0)", x.edge(0, 1, 1, 0), 2);
        due("edge(0, 2, 0, 1)", x.edge(0, 2, 0, 1), 3);
        due("edge(0, 1, 0, 2)", x.edge(0, 1, 0, 2), 0);
        due("value of ba", valueOf(x, 0, "ba"), 0);
        due("value of ab", valueOf(x, 0, "ab"), 24 % 7);
        due("value of abaa", valueOf(x, 0, "abaa"), 24 % 7);
        due("turn() again", x.turn(), 3);
        due("value of aaba", valueOf(x, 0, "aaba"), 24 % 7);
        x = new WeightedWords();
        x.learn();
        due("turn() without states", x.turn(), 0);
        dueAnew("turn without states", x);
    }

    private static void scale() {
        WeightedWords x = learnt();
        due("scale(5)", x.scale(5), BAD);
        due("scale(-1)", x.scale(-1), BAD);
        dueAsLearnt("scale refused", x);
        x.begins(1, 4);
        x.learn();
        due("scale(3)", x.scale(3), 2);
        dueAnew("scale", x);
        due("start(0, 0)", x.start(0, 0), 3);
        due("start(0, 1)", x.start(0, 1), 2);
        due("finish(0, 1)", x.finish(0, 1), 1);
        x.learn();
        due("scale(1)", x.scale(1), 2);
        dueAnew("scale by 1", x);
        due("scale(0)", x.scale(0), 2);
        due("start(0, 0)", x.start(0, 0), 0);
        due("rule(4)", x.rule(4), 0);
    }

    private static void shrink() {
        WeightedWords x = told("states 3;start 0 1;end 1 1;end 2 1;edge 0 a 1 1;edge 0 b 2 1;");
        x.learn();
        due("shrink()", x.shrink(), 2);
        dueAnew("shrink", x);
        due("rule(2)", x.rule(2), 2);
        dueEdges(x, 0, new int[] {0, 1, 0, 1, 0, 0, 0, 0});
        due("start(0, 0)", x.start(0, 0), 1);
        due("finish(0, 0)", x.finish(0, 0), 0);
        due("finish(0, 1)", x.finish(0, 1), 1);
        x = learnt();
        due("shrink()", x.shrink(), 2);
        dueEdges(x, 0, new int[] {0, 1, 1, 0, 4, 2, 0, 1});
        due("finish(0, 1)", x.finish(0, 1), 2);
        x.scale(0);
        due("shrink() to nothing", x.shrink(), 0);
        due("shrink() of nothing", x.shrink(), 0);
    }

    private static void join() {
        WeightedWords x = learnt();
        due("join(0)", x.join(0), STATE);
        due("join(2)", x.join(2), BAD);
        due("join(-1)", x.join(-1), BAD);
        dueAsLearnt("join refused", x);
        x.keep(1);
        x.begins(0, 3);
        x.learn();
        due("join(1)", x.join(1), 4);
        dueAnew("join", x);
        due("value of ab", valueOf(x, 0, "ab"), (6 + 2) % 5);
        due("start(0, 2)", x.start(0, 2), 1);
        due("finish(0, 3)", x.finish(0, 3), 1);
        due("edge(0, 2, 0, 3)", x.edge(0, 2, 0, 3), 2);
        for (int s = 0; s < 2; s++) {
            for (int t = 2; t < 4; t++) {
                due("edge between", x.edge(0, s, 0, t), 0);
                due("edge between", x.edge(0, t, 0, s), 0);
            }
        }
        x.learn();
        due("join(1) of too many", x.join(1), FULL);
        due("rounds", x.rule(7), 1);
        due("rule(2)", x.rule(2), 4);
    }

    private static void draw() {
        WeightedWords x = new WeightedWords();
        x.learn();
        due("draw(1, 5)", x.draw(1, 5), BAD);
        due("draw(1, -1)", x.draw(1, -1), BAD);
        due("rounds", x.rule(7), 1);
        due("draw(12345, 2)", x.draw(12345, 2), 1);
        dueAnew("draw", x);
        due("start(0, 0)", x.start(0, 0), 6);
        due("start(0, 1)", x.start(0, 1), 0);
        due("finish(0, 0)", x.finish(0, 0), 0);
        dueEdges(x, 0, new int[] {0, 5, 0, 1, 3, 4, 4, 0});
        due("draw(-7, 2)", x.draw(-7, 2), 1);
        due("start(0, 0)", x.start(0, 0), 2);
        dueEdges(x, 0, new int[] {0, 0, 0, 0, 6, 0, 2, 0});
        due("draw(9, 4)", x.draw(9, 4), 1);
        due("rule(2)", x.rule(2), 4);
        due("draw(9, 0)", x.draw(9, 0), 1);
        due("rule(2)", x.rule(2), 0);
        due("grow()", x.grow(), 1);
        due("start(0, 0)", x.start(0, 0), 0);
    }

    private static void keep() {
        WeightedWords x = told(COUNTS);
        due("keep(-1)", x.keep(-1), BAD);
        due("keep(2)", x.keep(2), BAD);
        due("keep(0)", x.keep(0), 0);
        due("keep(0)", x.keep(0), 1);
        due("keep(1)", x.keep(1), 0);
        due("rule(11)", x.rule(11), 2);
        x.scale(2);
        due("an image stays as it was", x.differ(0), 1);
        x.keep(0);
        due("an image becomes what is", x.differ(0), NONE);
        due("rule(11)", x.rule(11), 2);
    }

    private static void back() {
        WeightedWords x = learnt();
        x.keep(0);
        due("back(1)", x.back(1), STATE);
        due("back(2)", x.back(2), BAD);
        due("back(-1)", x.back(-1), BAD);
        x.letter(1);
        x.draw(3, 4);
        x.learn();
        x.ask(62);
        due("back(0)", x.back(0), 2);
        dueAsLearnt("back", x);
        due("prefix(1)", x.prefix(1), 1);
        due("suffix(1)", x.suffix(1), 1);
        due("rule(4)", x.rule(4), 2);
        due("basis(1)", x.basis(1), 1);
        due("counter()", x.counter(), NONE);
        dueEdges(x, 0, new int[] {1, 2, 1, 0, 0, 1, 0, 1});
        dueEdges(x, 1, new int[] {0, 1, 1, 0, 4, 2, 0, 1});
        due("the word stays", x.wipe(), 1);
        x.scale(0);
        due("back(0) again", x.back(0), 2);
        due("start(0, 0)", x.start(0, 0), 1);
        x = new WeightedWords();
        x.keep(1);
        x.grow();
        x.learn();
        due("back(1) without states", x.back(1), 0);
        dueAnew("back to what was anew", x);
    }

    private static void differ() {
        WeightedWords x = told(COUNTS);
        due("differ(0)", x.differ(0), STATE);
        due("differ(2)", x.differ(2), BAD);
        due("differ(-1)", x.differ(-1), BAD);
        x.keep(0);
        due("differ(0)", x.differ(0), NONE);
        x.shrink();
        due("differ(0) of the least", x.differ(0), NONE);
        x.turn();
        due("differ(0) of the least turned", x.differ(0), NONE);
        x.grow();
        x.begins(2, 1);
        due("differ(0) of a state that ends nowhere", x.differ(0), NONE);
        x.ends(2, 1);
        due("differ(0)", x.differ(0), 0);
        x.ends(2, 0);
        x.grow();
        x.ends(3, 1);
        x.leads(2, 1, 2, 1);
        x.leads(2, 0, 3, 1);
        // now a, then b a, b b a, and so on have one more
        due("differ(0)", x.differ(0), 1);
        x.begins(2, 0);
        x.leads(0, 1, 2, 1);
        due("rule(2)", x.rule(2), 4);
        // all begins in state 1 now: by a to 0, by b to 2, by a to 3
        due("differ(0)", x.differ(0), 9);
    }

    private static void shelf() {
        WeightedWords x = new WeightedWords();
        due("shelf(-1, 0, 0)", x.shelf(-1, 0, 0), BAD);
        due("shelf(3, 0, 0)", x.shelf(3, 0, 0), BAD);
        due("shelf(0, -1, 0)", x.shelf(0, -1, 0), BAD);
        due("shelf(0, 3, 0)", x.shelf(0, 3, 0), BAD);
        due("shelf(0, 0, 9)", x.shelf(0, 0, 9), BAD);
        due("shelf(0, 3, -1)", x.shelf(0, 3, -1), BAD);
        due("shelf(0, 0, -1)", x.shelf(0, 0, -1), SIZE);
        due("shelf(0, 0, least)", x.shelf(0, 0, Integer.MIN_VALUE), SIZE);
        due("rule(12)", x.rule(12), 0);
        due("shelf(0, 0, 0)", x.shelf(0, 0, 0), 1);
        due("rule(12)", x.rule(12), 1);
        due("kind(0, 0) of no cells", x.kind(0, 0), INDEX);
        due("shelf(0, 0, 8)", x.shelf(0, 0, 8), 1);
        due("kind(0, 7)", x.kind(0, 7), EMPTY);
        due("lay(0, 7, 0)", x.lay(0, 7, 0), 1);
        due("shelf(0, 0, -1)", x.shelf(0, 0, -1), SIZE);
        due("what is refused changes nothing", x.kind(0, 7), 0);
        due("shelf(0, 1, 8)", x.shelf(0, 1, 8), 1);
        due("a new row is of nothing", x.kind(0, 7), EMPTY);
        due("rule(12)", x.rule(12), 1);
    }

    private static void lay() {
        WeightedWords x = told(COUNTS);
        due("lay(3, 0, 0)", x.lay(3, 0, 0), BAD);
        due("lay(-1, 0, 0)", x.lay(-1, 0, 0), BAD);
        due("lay(0, 0, 3)", x.lay(0, 0, 3), BAD);
        due("lay(0, 0, -1)", x.lay(0, 0, -1), BAD);
        due("lay(0, 0, 1)", x.lay(0, 0, 1), STATE);
        due("lay(0, 0, 0)", x.lay(0, 0, 0), NULL);
        for (int lane = 0; lane < 3; lane++) {
            x.shelf(lane, lane, 2);
            due("lay(lane, 2, 0)", x.lay(lane, 2, 0), INDEX);
            due("lay(lane, -1, 2)", x.lay(lane, -1, 2), INDEX);
        }
        due("lay(1, 2, 0) first by INDEX", x.lay(1, 2, 0), INDEX);
        due("lay(1, 2, 1) first by STATE", x.lay(1, 2, 1), STATE);
        x.learn();
        int[][] due = {{1, STORE, STORE}, {STORE, 1, 1}, {1, 1, 1}};
        for (int lane = 0; lane < 3; lane++) {
            for (int m = 0; m < 3; m++) {
                due("lay(" + lane + ", 0, " + m + ")", x.lay(lane, 0, m), due[lane][m]);
            }
        }
        due("lay is no change", x.rule(7), 1);
        x.scale(0);
        due("take(0, 0, 0)", x.take(0, 0, 0), 2);
        due("a copy stays as it was", x.start(0, 0), 1);
    }

    private static void take() {
        WeightedWords x = learnt();
        due("take(3, 0, 0)", x.take(3, 0, 0), BAD);
        due("take(-1, 0, 0)", x.take(-1, 0, 0), BAD);
        due("take(0, 3, 0)", x.take(0, 3, 0), BAD);
        due("take(0, -1, 0)", x.take(0, -1, 0), BAD);
        due("take(0, 0, 0)", x.take(0, 0, 0), NULL);
        for (int lane = 0; lane < 3; lane++) {
            x.shelf(lane, lane, 2);
            x.lay(lane, 0, lane);
        }
        int[][] due = {{EMPTY, CAST, EMPTY}, {CAST, EMPTY, EMPTY}, {CAST, CAST, EMPTY}};
        for (int k = 0; k < 3; k++) {
            for (int lane = 0; lane < 3; lane++) {
                due("take(" + k + ", " + lane + ", 1)", x.take(k, lane, 1), due[k][lane]);
            }
            due("take(k, 2, 2)", x.take(k, 2, 2), INDEX);
            due("take(k, 2, -1)", x.take(k, 2, -1), INDEX);
        }
        due("take(0, 1, 2) first by CAST", x.take(0, 1, 2), CAST);
        dueAsLearnt("take refused", x);
        due("take(1, 1, 0)", x.take(1, 1, 0), 2);
        dueAnew("take", x);
        dueEdges(x, 0, new int[] {0, 1, 1, 0, 4, 2, 0, 1});
        x.learn();
        due("take(0, 2, 0)", x.take(0, 2, 0), 2);
        dueAnew("take", x);
        dueEdges(x, 0, new int[] {1, 2, 1, 0, 0, 1, 0, 1});
        x.scale(0);
        due("take(0, 0, 0) again", x.take(0, 0, 0), 2);
        due("start(0, 0)", x.start(0, 0), 1);
        due("take(2, 2, 0)", x.take(2, 2, 0), 2);
    }

    private static void kind() {
        WeightedWords x = learnt();
        due("kind(3, 0)", x.kind(3, 0), BAD);
        due("kind(-1, 0)", x.kind(-1, 0), BAD);
        due("kind(2, 0)", x.kind(2, 0), NULL);
        x.shelf(2, 2, 4);
        due("kind(2, 4)", x.kind(2, 4), INDEX);
        due("kind(2, -1)", x.kind(2, -1), INDEX);
        due("kind(2, 3)", x.kind(2, 3), EMPTY);
        int[] kinds = {0, 1, 1};
        for (int m = 0; m < 3; m++) {
            x.lay(2, m, m);
            due("kind of machine " + m, x.kind(2, m), kinds[m]);
        }
        x.take(2, 2, 1);
        x.lay(2, 3, 0);
        due("kind of a teacher that was taken", x.kind(2, 3), 0);
        x.lay(2, 3, 2);
        due("kind of what came in its place", x.kind(2, 3), 1);
        x.shelf(1, 1, 1);
        x.lay(1, 0, 2);
        due("kind(1, 0)", x.kind(1, 0), 1);
    }

    private static final Runnable[] PROMISES = {PromiseTest::aNewObject, PromiseTest::feed, PromiseTest::end,
        PromiseTest::text, PromiseTest::fault, PromiseTest::rule, PromiseTest::start, PromiseTest::finish,
        PromiseTest::edge, PromiseTest::letter, PromiseTest::wipe, PromiseTest::value, PromiseTest::space,
        PromiseTest::share, PromiseTest::mean, PromiseTest::prefix, PromiseTest::suffix, PromiseTest::cell,
        PromiseTest::part, PromiseTest::close, PromiseTest::learn, PromiseTest::counter, PromiseTest::ask,
        PromiseTest::basis, PromiseTest::begins, PromiseTest::ends, PromiseTest::leads, PromiseTest::grow,
        PromiseTest::drop, PromiseTest::turn, PromiseTest::scale, PromiseTest::shrink, PromiseTest::join,
        PromiseTest::draw, PromiseTest::keep, PromiseTest::back, PromiseTest::differ, PromiseTest::shelf,
        PromiseTest::lay, PromiseTest::take, PromiseTest::kind};

    public static void main(String[] args) {
        for (promise = 1; promise <= PROMISES.length; promise++) {
            PROMISES[promise - 1].run();
        }
        System.out.println(PROMISES.length + " promises, " + wrong + " answers that are not due");
        if (wrong != 0) {
            System.exit(1);
        }
    }
}
