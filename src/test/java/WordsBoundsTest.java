/** The edges of promises 1 to 4: a new object, words, ofWord, spell. */
public final class WordsBoundsTest {
    private static final int MIN = Integer.MIN_VALUE, MAX = Integer.MAX_VALUE;
    private static final String FULLEST = "w;p/abca;b/bcab;t/cabc;p/ccba";

    public static void main(String[] args) {
        nothingAtFirst();
        eachBeginningOfTheFullestText();
        eachCodeBehindEachBeginning();
        codesOfWiderLanes();
        oneToFourWords();
        oneToFourLetters();
        firstOfTwoFaults();
        placesAreCountedFromTheTextsBegin();
        textsAtTheEndOfASheet();
        noCells();
        faultsInTheirOrder();
        textTakenByAFullObject();
        textNotTakenByAFullObject();
        fewerWordsAndMoreWords();
        sameTextAgain();
        ofWordEdges();
        heardTimes();
        unlikeForms();
        spellEdges();
        spellAllThree();
        Due.end();
    }

    /** No WORDS, nothing is SAID, SHEETS have nothing. */
    private static void nothingAtFirst() {
        Due d = new Due("promise 1, no words");
        d.due("ofWord", d.x.ofWord(0, 0), -1);
        d.due("spell", d.x.spell(0, 0, 0), -1);
        d.due("over", d.x.over(0, 0), -1);
        d.due("have", d.x.have(0), OneLongRow.LOST);
        d.due("free", d.x.free(0), OneLongRow.LOST);
        d.due("odds", d.x.odds(0, 1), OneLongRow.LOST);
        d.due("back", d.x.back(0), 0);
        d.due("kinds", d.x.kinds(0), -1);
        d.due("lasts", d.x.lasts(0), -1);
        d.due("tell", d.x.tell(0), -1);
        d.due("spelt", d.x.spelt(0), -1);
        d.due("as", d.x.as(0, 0), -1);
        d.due("trace", d.x.trace(), 0);
        d.due("fault", d.x.fault(), 0);
        for (int k = 0; k < 4; k++) {
            d.due("words of sheet " + k, d.x.words(k, 0, 0, 0), -11);
            d.due("row of sheet " + k, d.x.row(k, 0, 0, 0, 0), -11);
            d.due("put on sheet " + k, d.x.put(k, 0, 0), -11);
            d.due("copy of sheet " + k, d.x.copy(k, 0, k, 0, 0), -11);
            d.due("lose sheet " + k, d.x.lose(k), 0);
        }
        d.due("one object is not another", new OneLongRow().many(0), 0);
    }

    /** How many codes there are, if it just ends too soon. */
    private static void eachBeginningOfTheFullestText() {
        for (int n = 0; n <= FULLEST.length(); n++) {
            Due d = new Due("promise 2, ends too soon");
            String text = FULLEST.substring(0, n);
            boolean whole = n > 4 && "abc".indexOf(FULLEST.charAt(n - 1)) >= 0 && FULLEST.charAt(n - 2) != ';';
            d.due("<" + text + ">", d.words(text), whole ? text.split(";").length - 1 : -100 - n);
            d.due("words of <" + text + ">", d.x.many(0), whole ? text.split(";").length - 1 : 0);
            d.due("fault of <" + text + ">", d.x.fault(), 0);
        }
    }

    /** The place of the first code with which no TEXT goes on: all codes of bytes behind each kind of beginning. */
    private static void eachCodeBehindEachBeginning() {
        goesOnWith("", "w");
        goesOnWith("w", ";");
        goesOnWith("w;", "pbt");
        goesOnWith("w;p", "/");
        goesOnWith("w;b", "/");
        goesOnWith("w;t", "/");
        goesOnWith("w;p/", "abc");
        goesOnWith("w;b/a", "abc;");
        goesOnWith("w;t/ab", "abc;");
        goesOnWith("w;p/abc", "abc;");
        goesOnWith("w;p/abcc", ";");
        goesOnWith("w;p/abcc;", "pbt");
        goesOnWith("w;p/a;b/b;t/c", "abc;");
        goesOnWith("w;p/a;b/b;t/c;", "pbt");
        goesOnWith("w;p/a;b/b;t/c;p/", "abc");
        goesOnWith("w;p/a;b/b;t/c;p/a", "abc");
        goesOnWith("w;p/a;b/b;t/c;p/abc", "abc");
        goesOnWith(FULLEST, "");
    }

    private static void goesOnWith(String beginning, String codes) {
        int n = beginning.length();
        for (int code = -128; code < 128; code++) {
            Due d = new Due("promise 2, first fault");
            d.bytes(3, beginning + "w");
            d.x.put(3, n, code);
            boolean goesOn = code > 0 && codes.indexOf(code) >= 0;
            boolean isLetter = goesOn && codes.indexOf('a') >= 0 && code != ';';
            int due = !goesOn ? -100 - n : isLetter ? beginning.split(";").length - 1 : -100 - n - 1;
            d.due("<" + beginning + "> and code " + code, d.x.words(3, 0, 0, n + 1), due);
        }
    }

    /** A code above 127 is no letter, even if its last bits are one's; in bytes it is cut to one. */
    private static void codesOfWiderLanes() {
        int[] lifts = {0, 256, -256, 65536, -65536, 1 << 24, MIN};
        int[][] due = {{1, 1, 1, 1, 1, 1, 1}, {1, -100, -100, 1, 1, 1, 1}, {1, -100, -100, -100, -100, -100, -100}};
        String text = "w;p/a";
        for (int lane = 0; lane < 3; lane++) {
            for (int k = 0; k < lifts.length; k++) {
                Due d = new Due("promise 2, lane " + lane);
                d.x.sheet(0, lane, 5);
                for (int c = 0; c < 5; c++) d.x.put(0, c, text.charAt(c) + lifts[k]);
                d.due("codes lifted by " + lifts[k], d.x.words(0, lane, 0, 5), due[lane][k]);
            }
        }
        int[] edges = {96, 100, MIN, MAX, -97, 97 - 128, 65536 + 97, 97 + 512};
        for (int code : edges) {
            Due d = new Due("promise 2, ints");
            d.x.sheet(0, 2, 5);
            for (int c = 0; c < 5; c++) d.x.put(0, c, text.charAt(c));
            d.x.put(0, 4, code);
            d.due("letter " + code, d.x.words(0, 2, 0, 5), -104);
        }
    }

    /** w, then 1 to 4 of them; the ; of a fifth WORD is a fault. */
    private static void oneToFourWords() {
        int[] due = {-101, 1, 2, 3, 4, -117, -117};
        for (int many = 0; many < due.length; many++) {
            Due d = new Due("promise 2, " + many + " words");
            d.due("words", d.words("w" + ";b/c".repeat(many)), due[many]);
            d.due("many", d.x.many(0), Math.max(0, due[many]));
            d.due("the last is there", d.x.ofWord(due[many] - 1, 10), due[many] > 0 ? 2 : -1);
            d.due("none behind it", d.x.ofWord(Math.max(0, due[many]), 10), -1);
        }
    }

    /** 1 to 4 letters; a fifth letter of a WORD is a fault, of the first WORD as of the last. */
    private static void oneToFourLetters() {
        int[] due = {-104, 2, 2, 2, 2, -108, -108};
        for (int many = 0; many < due.length; many++) {
            Due d = new Due("promise 2, first word of " + many + " letters");
            d.due("words", d.words("w;p/" + "b".repeat(many) + ";t/c"), due[many]);
            d.due("letters", d.x.ofWord(0, 1), due[many] > 0 ? many : -1);
            Due e = new Due("promise 2, second word of " + many + " letters");
            e.due("words", e.words("w;t/c;p/" + "b".repeat(many)), due[many] > 0 ? 2 : due[many] - 4);
            e.due("letters", e.x.ofWord(1, 1), due[many] > 0 ? many : -1);
        }
    }

    private static void firstOfTwoFaults() {
        Due d = new Due("promise 2, first of two faults");
        d.due("two of one word", d.words("w;x/d"), -102);
        d.due("the second alone", d.words("w;p/d"), -104);
        d.due("one at the head", d.words("x;x/d"), -100);
        d.due("one in each word", d.words("w;p/abcab;x/a"), -108);
        d.due("a fault, then an end too soon", d.words("w;p/a;q/"), -106);
        d.due("a fifth letter of a fourth word, then a fifth word", d.words("w;p/a;p/a;p/a;p/abcaa;p/a"), -120);
    }

    private static void placesAreCountedFromTheTextsBegin() {
        Due d = new Due("promise 2, from i on");
        d.bytes(0, "w;w;p/ab;t/cdw");
        d.due("from 2, all ahead of the fault", d.x.words(0, 0, 2, 10), 2);
        d.due("from 2, with the fault", d.x.words(0, 0, 2, 11), -110);
        d.due("from 2, one word", d.x.words(0, 0, 2, 6), 1);
        d.due("the rest is not taken", d.x.ofWord(0, 1), 2);
        d.due("from 2, one letter", d.x.words(0, 0, 2, 5), 1);
        d.due("one letter", d.x.ofWord(0, 1), 1);
        d.due("from 0", d.x.words(0, 0, 0, 14), -102);
        d.due("from 1", d.x.words(0, 0, 1, 13), -100);
        d.due("the last code alone", d.x.words(0, 0, 13, 1), -101);
    }

    /** INDEX: not all cells are there. */
    private static void textsAtTheEndOfASheet() {
        for (int lane = 0; lane < 3; lane++) {
            Due d = new Due("promise 2, end of 60 cells");
            d.x.sheet(1, lane, 60);
            for (int c = 0; c < 29; c++) d.x.put(1, 31 + c, FULLEST.charAt(c));
            d.due("the last 29 cells", d.x.words(1, lane, 31, 29), 4);
            d.due("one beyond", d.x.words(1, lane, 31, 30), -13);
            d.due("from one later on", d.x.words(1, lane, 32, 29), -13);
            d.due("all cells, of which the first is 0", d.x.words(1, lane, 0, 60), -100);
            d.due("all cells and one", d.x.words(1, lane, 0, 61), -13);
            d.due("from below 0 on", d.x.words(1, lane, -1, 29), -13);
        }
    }

    /** INDEX also where i is not 0 .. how many there are, if none of them is taken, too. */
    private static void noCells() {
        for (int many : new int[] {0, 1, 60}) {
            Due d = new Due("promise 2, none of " + many + " cells");
            d.x.sheet(0, 0, many);
            int[][] calls = {{-1, -13, 3}, {0, -100, 0}, {many, -100, 0}, {many + 1, -13, 3}, {MIN, -13, 3}, {MAX, -13, 3}};
            for (int[] c : calls) {
                d.due("from " + c[0], d.x.words(0, 0, c[0], 0), c[1]);
                d.due("fault from " + c[0], d.x.fault(), c[2]);
            }
        }
    }

    /** UNKNOWN; OUTSIDE: lane; FAULTS CAST (nothing is no CAST), NULL, SIZE, INDEX; each alone, then with all behind it. */
    private static void faultsInTheirOrder() {
        Due d = new Due("promise 2, in their order");
        d.bytes(0, "w;p/a");
        int[][] calls = {{-1, 0, 0, 5, -1, 0}, {4, 0, 0, 5, -1, 0}, {4, 3, -1, -1, -1, 0}, {0, -1, 0, 5, -2, 0}, {0, 3, 0, 5, -2, 0},
            {0, 3, -1, -1, -2, 0}, {1, 3, 0, -1, -2, 0}, {0, 1, 0, 5, -12, 2}, {0, 2, 0, 5, -12, 2}, {0, 1, -1, -1, -12, 2},
            {1, 0, 0, 0, -11, 1}, {1, 1, 0, 0, -11, 1}, {1, 2, -1, -1, -11, 1}, {0, 0, 0, -1, -14, 4}, {0, 0, 6, -1, -14, 4},
            {0, 0, -1, MIN, -14, 4}, {0, 0, 0, 6, -13, 3}, {0, 0, 1, 5, -13, 3}, {0, 0, MAX, MAX, -13, 3}, {0, 0, 0, 5, 1, 0}};
        for (int[] c : calls) {
            String call = "words(" + c[0] + ", " + c[1] + ", " + c[2] + ", " + c[3] + ")";
            d.due(call, d.x.words(c[0], c[1], c[2], c[3]), c[4]);
            d.due("fault of " + call, d.x.fault(), c[5]);
        }
    }

    private static Due full() {
        Due d = new Due("promise 2, a full object");
        d.words("w;p/ab;b/bc;t/ca;p/a");
        for (int k = 0; k < 60; k++) d.x.say(k % 3);
        d.letters(2, "ab");
        for (int k = 0; k < 8; k++) d.x.reading(0, 2, 2, 0, 2, 0);
        d.x.tell(0);
        return d;
    }

    /** A TEXT that is taken makes all anew: nothing is SAID, no READINGS. */
    private static void textTakenByAFullObject() {
        Due d = full();
        d.due("full of letters", d.x.say(0), -4);
        d.due("full of readings", d.x.reading(0, 2, 2, 0, 2, 0), -4);
        d.due("no kind", d.x.kinds(0), 0);
        d.due("taken", d.words("w;p/b"), 1);
        d.due("said", d.x.many(1), 0);
        d.due("standing", d.x.many(2), 0);
        d.due("readings", d.x.many(3), 0);
        d.due("kinds", d.x.kinds(0), 7);
        d.due("lasts", d.x.lasts(0), 7);
        d.due("back", d.x.back(1), -2);
        d.due("first letter", d.x.say(1), 1);
        d.due("first reading", d.x.reading(0, 2, 2, 0, 2, 1), 0);
        d.due("trace is as it was", d.x.trace(), 1);
        d.due("sheets are as they were", d.x.cell(2, 1, 2), 1);
    }

    private static void textNotTakenByAFullObject() {
        for (String text : new String[] {"", "w", "w;", "w;b", "w;b/", "w;b/c;", "w;b/c;t/bbbbb", "w;b/c;b/c;b/c;b/c;", "x"}) {
            Due d = full();
            Due untouched = full();
            untouched.bytes(3, text);
            int answer = d.words(text);
            d.due("<" + text + "> is not taken", answer <= -100 ? 1 : 0, 1);
            d.due("fault", d.x.fault(), 0);
            d.due("<" + text + "> changes nothing", Seen.of(d.x).equals(Seen.of(untouched.x)) ? 1 : 0, 1);
        }
    }

    private static void fewerWordsAndMoreWords() {
        Due d = new Due("promise 2, texts in turn");
        d.due("four", d.words(FULLEST), 4);
        d.due("the fourth", d.x.ofWord(3, 0), 0);
        d.due("one", d.words("w;t/a"), 1);
        d.due("no second", d.x.ofWord(1, 0), -1);
        d.due("no second letter", d.x.ofWord(0, 11), -9);
        d.due("none to spell", d.x.spell(0, 1, 0), -1);
        d.due("all", d.x.all(-1), 1);
        d.due("four again", d.words("w;p/a;p/b;p/c;t/cb"), 4);
        d.due("all", d.x.all(-1), 3);
        d.due("the fourth is turned", d.x.ofWord(3, 0), 2);
    }

    private static void sameTextAgain() {
        Due d = new Due("promise 2, the same text again");
        d.words("w;p/ab");
        d.x.spell(0, 0, 2);
        d.due("all of cb", d.x.all(0), 2);
        d.due("again", d.x.words(3, 0, 0, 6), 1);
        d.due("the letter is the text's", d.x.ofWord(0, 10), 0);
        d.due("all of ab", d.x.all(0), 0);
        d.due("the sheet has its codes", d.x.cell(3, 4, 0), 'a');
        d.x.put(3, 4, 'c');
        d.due("a cell told anew is not in the word", d.x.ofWord(0, 10), 0);
    }

    private static void ofWordEdges() {
        for (int many = 1; many <= 4; many++) {
            Due d = new Due("promise 3, " + many + " words of as many letters");
            d.words("w" + (";b/" + "c".repeat(many)).repeat(many));
            for (int w : new int[] {MIN, -1, many, MAX}) {
                d.due("word " + w, d.x.ofWord(w, 0), -1);
                d.due("word " + w + ", what outside", d.x.ofWord(w, 4), -1);
            }
            for (int w : new int[] {0, many - 1}) {
                for (int what : new int[] {MIN, -1, 4, 5, 9, 14, MAX}) d.due("what " + what, d.x.ofWord(w, what), -2);
                for (int k = 0; k < 4; k++) d.due("place " + k, d.x.ofWord(w, 10 + k), k < many ? 2 : -9);
                d.due("kind", d.x.ofWord(w, 0), 1);
                d.due("letters", d.x.ofWord(w, 1), many);
                d.due("forms", d.x.ofWord(w, 2), 1);
                d.due("never heard", d.x.ofWord(w, 3), 0);
            }
        }
    }

    /** How often it is HEARD in THE ROW: never, once, by each of 60 letters. */
    private static void heardTimes() {
        Due d = new Due("promise 3, how often heard");
        d.words("w;p/a;t/aaaa;b/aaab;p/b");
        for (int k = 1; k <= 59; k++) {
            d.x.say(0);
            if (k == 3) d.due("not yet four", d.x.ofWord(1, 3), 0);
            if (k == 4) d.due("four", d.x.ofWord(1, 3), 1);
        }
        d.x.say(1);
        d.due("one letter", d.x.ofWord(0, 3), 59);
        d.due("four letters", d.x.ofWord(1, 3), 56);
        d.due("by the last letter", d.x.ofWord(2, 3), 1);
        d.due("the last letter", d.x.ofWord(3, 3), 1);
        d.x.spell(3, 0, 2);
        d.due("by the word as it is now", d.x.ofWord(3, 3), 0);
        d.x.spell(3, 0, 0);
        d.due("by the word as it is now", d.x.ofWord(3, 3), 59);
    }

    private static void unlikeForms() {
        String[] words = {"p/a", "p/abca", "b/b", "b/aa", "b/ab", "b/aba", "b/abb", "b/abba", "b/abca", "b/abcc",
            "t/c", "t/cc", "t/ca", "t/aab", "t/bbb", "t/abab", "t/cccc", "t/cccb"};
        int[] due = {1, 1, 1, 1, 2, 1, 2, 1, 2, 2, 1, 1, 2, 2, 1, 2, 1, 2};
        for (int k = 0; k < words.length; k++) {
            Due d = new Due("promise 3, unlike forms");
            d.words("w;" + words[k]);
            d.due(words[k], d.x.ofWord(0, 2), due[k]);
        }
    }

    /** UNKNOWN: WORD, place; OUTSIDE. */
    private static void spellEdges() {
        for (int many = 1; many <= 4; many++) {
            Due d = new Due("promise 4, " + many + " words of as many letters");
            d.words("w" + (";t/" + "a".repeat(many)).repeat(many));
            for (int bad : new int[] {MIN, -1, many, MAX}) {
                d.due("word " + bad, d.x.spell(bad, 0, 1), -1);
                d.due("word " + bad + ", letter outside", d.x.spell(bad, 0, 3), -1);
                d.due("place " + bad, d.x.spell(many - 1, bad, 1), -1);
                d.due("place " + bad + ", letter outside", d.x.spell(0, bad, -1), -1);
            }
            for (int bad : new int[] {MIN, -1, 3, MAX}) {
                d.due("letter " + bad, d.x.spell(0, 0, bad), -2);
                d.due("letter " + bad, d.x.spell(many - 1, many - 1, bad), -2);
            }
            d.due("nothing is changed", d.x.all(-1), many);
            for (int k = 0; k < many; k++) d.due("letter " + k, d.x.ofWord(many - 1, 10 + k), 0);
            d.due("the last place of the last word", d.x.spell(many - 1, many - 1, 2), 0);
            d.due("it is", d.x.ofWord(many - 1, 9 + many), 2);
            d.due("no other word is", d.x.ofWord(0, 9 + many), many == 1 ? 2 : 0);
        }
    }

    private static void spellAllThree() {
        Due d = new Due("promise 4, each letter behind each");
        d.words("w;p/a");
        int before = 0;
        for (int letter : new int[] {0, 1, 1, 2, 2, 0, 2, 1, 0}) {
            d.due("letter " + letter, d.x.spell(0, 0, letter), before);
            d.due("all", d.x.all(0), letter);
            d.due("heard", d.x.say(letter), 1);
            before = letter;
        }
    }
}
