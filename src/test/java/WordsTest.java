/** Promises 1 to 4: a new object, words, ofWord, spell. */
public final class WordsTest {
    private static final int MIN = Integer.MIN_VALUE, MAX = Integer.MAX_VALUE;

    public static void main(String[] args) {
        newObject();
        textsTaken();
        textsWithFaults();
        textLeftAlone();
        refusalsAndFaults();
        allAnew();
        ofWords();
        spelling();
        Due.end();
    }

    private static void newObject() {
        Due d = new Due("promise 1");
        OneLongRow x = d.x;
        for (int what = 0; what < 4; what++) d.due("many " + what, x.many(what), 0);
        for (int k = 0; k < 4; k++) {
            d.due("lose " + k, x.lose(k), 0);
            d.due("cell " + k, x.cell(k, 0, 0), OneLongRow.LOST);
            d.due("fault, nothing on " + k, x.fault(), 1);
        }
        d.due("ofWord", x.ofWord(0, 0), -1);
        d.due("trace", x.trace(), 0);
        d.due("fault ahead of any", new OneLongRow().fault(), 0);
        d.due("say", x.say(0), -3);
        d.due("hush", x.hush(), -3);
        d.due("all", x.all(-1), -3);
        d.due("longest", x.longest(), -3);
        d.due("spare", x.spare(), -3);
    }

    private static void textsTaken() {
        Due d = new Due("promise 2");
        String[] texts = {"w;p/a", "w;b/abca", "w;t/c;p/b", "w;p/a;b/ab;t/abc", "w;p/aaaa;b/bbbb;t/cccc;p/abcb"};
        int[] due = {1, 1, 2, 3, 4};
        for (int lane = 0; lane < 3; lane++) {
            for (int k = 0; k < texts.length; k++) {
                int n = texts[k].length();
                d.x.sheet(1, lane, n + 5);
                for (int c = 0; c < n; c++) d.x.put(1, c + 4, texts[k].charAt(c));
                d.due(texts[k], d.x.words(1, lane, 4, n), due[k]);
                d.due("many words", d.x.many(0), due[k]);
                d.due("fault", d.x.fault(), 0);
            }
        }
    }

    private static void textsWithFaults() {
        Due d = new Due("promise 2, first fault");
        Object[][] texts = {{"", 0}, {"w", 1}, {"x", 0}, {";", 0}, {"ww", 1}, {"wp", 1}, {"w;", 2}, {"w;;", 2}, {"w;a", 2},
            {"w;w", 2}, {"w;c/a", 2}, {"w;p", 3}, {"w;pp", 3}, {"w;p;", 3}, {"w;pa", 3}, {"w;p/", 4}, {"w;p//", 4}, {"w;p/;", 4},
            {"w;p/d", 4}, {"w;p/`", 4}, {"w;p/p", 4}, {"w;p/abcd", 7}, {"w;p/abcab", 8}, {"w;p/abca/", 8}, {"w;p/abcw", 7},
            {"w;p/abca;", 9}, {"w;p/a;p", 7}, {"w;p/a;x", 6}, {"w;p/a;b/", 8}, {"w;p/a;b/a;t/a;p/a;", 17}, {"w;p/a;b/a;t/a;p/abc;p/a", 19},
            {"w;p/aaaa;b/bbbb;t/cccc;p/abcbb", 29}, {"W;p/a", 0}, {"w;p/A", 4}};
        for (Object[] one : texts) {
            String text = (String) one[0];
            d.due("<" + text + ">", d.words(text), -100 - (Integer) one[1]);
            d.due("fault", d.x.fault(), 0);
            d.due("many words", d.x.many(0), 0);
        }
        d.x.sheet(0, 2, 5);
        int[] lifted = {119, 59, 112, 47, 97 + 256};
        for (int k = 0; k < 5; k++) d.x.put(0, k, lifted[k]);
        d.due("a code above bytes", d.x.words(0, 2, 0, 5), -104);
        d.x.sheet(0, 0, 5);
        for (int k = 0; k < 5; k++) d.x.put(0, k, lifted[k]);
        d.due("a code cut to bytes", d.x.words(0, 0, 0, 5), 1);
    }

    private static void textLeftAlone() {
        Due d = new Due("promise 2, wrong text");
        d.words("w;b/abc;t/ca");
        d.x.say(0);
        d.reading(0, "abc", 1);
        d.due("wrong text", d.words("w;p/bbb;p/b;p/"), -114);
        d.due("words", d.x.many(0), 2);
        d.due("letters said", d.x.many(1), 1);
        d.due("readings", d.x.many(3), 1);
        d.due("kind", d.x.ofWord(0, 0), 1);
        d.due("letter", d.x.ofWord(0, 12), 2);
        d.due("letter of the second", d.x.ofWord(1, 10), 2);
    }

    private static void refusalsAndFaults() {
        Due d = new Due("promise 2, refusals");
        OneLongRow x = d.x;
        d.bytes(0, "w;p/a");
        x.sheet(1, 1, 3);
        int[][] calls = {{4, 0, 0, 5, -1, 0}, {-1, 9, 0, 5, -1, 0}, {0, 3, 0, 5, -2, 0}, {0, -1, 0, 5, -2, 0}, {2, 3, 0, 0, -2, 0},
            {1, 0, 0, -1, -12, 2}, {0, 1, 9, 9, -12, 2}, {2, 0, 0, -1, -11, 1}, {2, 2, 9, 9, -11, 1}, {0, 0, 9, -1, -14, 4},
            {0, 0, 0, MIN, -14, 4}, {0, 0, -1, 5, -13, 3}, {0, 0, 0, 6, -13, 3}, {0, 0, 6, 0, -13, 3}, {0, 0, -1, 0, -13, 3},
            {0, 0, 1, 5, -13, 3}, {0, 0, 1, MAX, -13, 3}, {0, 0, MAX, 1, -13, 3}, {0, 0, MIN, MAX, -13, 3}, {0, 0, 5, 0, -100, 0},
            {0, 0, 0, 0, -100, 0}, {0, 0, 0, 4, -104, 0}, {0, 0, 0, 5, 1, 0}};
        for (int[] c : calls) {
            String call = "words(" + c[0] + ", " + c[1] + ", " + c[2] + ", " + c[3] + ")";
            d.due(call, x.words(c[0], c[1], c[2], c[3]), c[4]);
            d.due("fault of " + call, x.fault(), c[5]);
        }
    }

    private static void allAnew() {
        Due d = new Due("a text makes all anew");
        d.words("w;p/a;p/b");
        d.x.say(0);
        d.reading(0, "a", 1);
        d.x.tell(0);
        d.due("taken", d.words("w;t/abc"), 1);
        d.due("said", d.x.many(1), 0);
        d.due("stand", d.x.many(2), 0);
        d.due("readings", d.x.many(3), 0);
        d.due("trace stays", d.x.trace(), 1);
        d.due("sheets stay", d.x.cell(2, 0, 2), 0);
        d.due("all", d.x.all(-1), 3);
        d.due("words once more", d.words("w;p/ab;p/ab;p/cc"), 3);
        d.due("all once more", d.x.all(-1), 4);
        d.due("have", d.x.have(4), 2);
    }

    private static void ofWords() {
        Due d = new Due("promise 3");
        d.words("w;p/abc;b/aba;t/abab;b/ab");
        int[] whats = {0, 1, 2, 3, 10, 11, 12, 13};
        int[][] due = {{0, 3, 1, 0, 0, 1, 2, -9}, {1, 3, 1, 0, 0, 1, 0, -9}, {2, 4, 2, 0, 0, 1, 0, 1}, {1, 2, 2, 0, 0, 1, -9, -9}};
        for (int w = 0; w < 4; w++) {
            for (int k = 0; k < 8; k++) d.due("ofWord " + w + " " + whats[k], d.x.ofWord(w, whats[k]), due[w][k]);
            for (int bad : new int[] {-1, 4, 9, 14, MIN, MAX}) d.due("ofWord what", d.x.ofWord(w, bad), -2);
        }
        for (int w : new int[] {-1, 4, MIN, MAX}) d.due("ofWord " + w, d.x.ofWord(w, 99), -1);
        for (int letter : new int[] {0, 1, 0, 1, 0, 0, 1, 2}) d.x.say(letter);
        d.due("abc heard", d.x.ofWord(0, 3), 1);
        d.due("aba heard", d.x.ofWord(1, 3), 2);
        d.due("abab or baba heard", d.x.ofWord(2, 3), 2);
        d.due("ab or ba heard", d.x.ofWord(3, 3), 5);
        d.words("w;t/aa;t/aab;b/a;t/b");
        d.due("forms of aa", d.x.ofWord(0, 2), 1);
        d.due("forms of aab", d.x.ofWord(1, 2), 2);
        d.due("forms of a", d.x.ofWord(2, 2), 1);
        d.due("forms of b", d.x.ofWord(3, 2), 1);
    }

    private static void spelling() {
        Due d = new Due("promise 4");
        d.due("no words", d.x.spell(0, 0, 0), -1);
        d.words("w;p/ab;b/cc");
        for (int letter : new int[] {0, 2, 0, 2}) d.x.say(letter);
        d.reading(0, "ac", 1);
        d.due("all ahead", d.x.all(-1), 4);
        d.due("have ahead", d.x.have(4), 2);
        d.due("heard ahead", d.x.ofWord(0, 3), 0);
        d.due("place beyond", d.x.spell(0, 2, 0), -1);
        d.due("place below", d.x.spell(0, -1, 9), -1);
        d.due("word beyond", d.x.spell(2, 0, 9), -1);
        d.due("letter beyond", d.x.spell(0, 1, 3), -2);
        d.due("letter below", d.x.spell(0, 1, -1), -2);
        d.due("spell", d.x.spell(0, 1, 2), 1);
        d.due("letter now", d.x.ofWord(0, 11), 2);
        d.due("said stays", d.x.many(1), 4);
        d.due("readings stay", d.x.many(3), 1);
        d.due("heard by what it is now", d.x.ofWord(0, 3), 2);
        d.due("stand", d.x.many(2), 1);
        d.due("all behind", d.x.all(-1), 3);
        d.due("have behind", d.x.have(3), 1);
        d.due("spell again", d.x.spell(0, 1, 2), 2);
        d.due("over", d.x.over(0, 1), 1);
        d.due("longest", d.x.longest(), -9);
    }
}
