/** The edges of promises 5 to 7: say, hush, row. */
public final class RowsBoundsTest {
    private static final int MIN = Integer.MIN_VALUE, MAX = Integer.MAX_VALUE;

    public static void main(String[] args) {
        lettersSaid();
        refusalsOfSayInOrder();
        sixtyLetters();
        hushEdges();
        heardByTheLastLetter();
        heardOnceByOneLetter();
        toldAlone();
        lengthsOfRows();
        whatsOfRows();
        cellsOfRows();
        cellsBesideTheRow();
        rowsOfNoCells();
        refusalsOfRowInOrder();
        firstAndAllHeard();
        timesHeard();
        placesOfWords();
        Due.end();
    }

    private static void lettersSaid() {
        Due d = new Due("promise 5, letters");
        d.words("w;p/a;p/b;p/c");
        for (int bad : new int[] {MIN, -1, 3, 97, MAX}) d.due("letter " + bad, d.x.say(bad), -2);
        d.due("none is said", d.x.many(1), 0);
        for (int letter = 0; letter < 3; letter++) d.due("letter " + letter, d.x.say(letter), 1 << letter);
        d.due("three are said", d.x.many(1), 3);
        d.words("w;p/c;p/c;p/c;p/c");
        d.due("none of four", d.x.say(0), 0);
        d.due("all four", d.x.say(2), 15);
    }

    /** OUTSIDE; STATE: there are no WORDS; FULL: 60 were SAID. */
    private static void refusalsOfSayInOrder() {
        Due d = new Due("promise 5, in their order");
        d.due("outside without words", d.x.say(-1), -2);
        d.due("outside without words", d.x.say(3), -2);
        d.due("without words", d.x.say(2), -3);
        d.due("a text that is not taken makes no words", d.words("w;p/"), -104);
        d.due("without words", d.x.say(0), -3);
        d.words("w;p/a");
        for (int k = 0; k < 60; k++) d.x.say(0);
        d.due("outside in full", d.x.say(-1), -2);
        d.due("outside in full", d.x.say(3), -2);
        d.due("full", d.x.say(2), -4);
        d.due("say names no fault", d.x.fault(), 0);
    }

    /** No letter at first; 60 at most. */
    private static void sixtyLetters() {
        Due d = new Due("promise 5, sixty letters");
        d.words("w;p/ca;p/c");
        for (int k = 1; k <= 59; k++) d.due("letter " + k, d.x.say(1), 0);
        d.due("59 are said", d.x.many(1), 59);
        d.due("the 60th is taken", d.x.say(2), 2);
        d.due("60 are said", d.x.many(1), 60);
        d.due("the 61st is not", d.x.say(0), -4);
        d.due("nor is it heard", d.x.many(2), 2);
        d.due("60 are said", d.x.many(1), 60);
        d.due("one heard", d.x.ofWord(1, 3), 1);
        d.due("hushed", d.x.hush(), 60);
        for (int k = 1; k <= 60; k++) d.due("letter " + k + " again", d.x.say(0), 0);
        d.due("the 61st again", d.x.say(0), -4);
        d.words("w;p/a");
        d.due("taken behind a text", d.x.say(0), 1);
    }

    private static void hushEdges() {
        Due d = new Due("promise 6");
        d.due("without words", d.x.hush(), -3);
        d.words("w;b/ab;p/b");
        d.due("nothing said", d.x.hush(), 0);
        d.due("nothing said, again", d.x.hush(), 0);
        d.x.say(0);
        d.due("one said", d.x.hush(), 1);
        d.due("nothing said any more", d.x.hush(), 0);
        for (int k = 0; k < 60; k++) d.x.say(k % 2);
        d.due("standing", d.x.many(2), 3);
        d.due("sixty said", d.x.hush(), 60);
        d.due("none is said", d.x.many(1), 0);
        d.due("none stands", d.x.many(2), 0);
        d.due("none was heard", d.x.ofWord(0, 3), 0);
        d.due("words stay", d.x.many(0), 2);
        d.due("not behind what was said ahead", d.x.say(0), 0);
    }

    /** WORDS are HEARD by a letter, of which a FORM ends with it. */
    private static void heardByTheLastLetter() {
        String[] kinds = {"p", "b", "t"};
        String[][] forms = {{"abcc"}, {"abcc", "ccba"}, {"abcc", "bcca"}};
        for (int kind = 0; kind < 3; kind++) {
            for (String form : forms[kind]) {
                Due d = new Due("promise 5, " + kinds[kind] + "/abcc");
                d.words("w;" + kinds[kind] + "/abcc");
                for (int k = 0; k < 4; k++) d.due("letter " + k + " of " + form, d.x.say(form.charAt(k) - 'a'), k == 3 ? 1 : 0);
                d.due("heard no more", d.x.say(1), 0);
            }
        }
        for (String other : new String[] {"ccab", "cabc", "acbc", "ccbb"}) {
            Due d = new Due("promise 5, " + other + " is no form");
            d.words("w;p/abcc;b/abcc;t/abcc");
            for (int k = 0; k < 4; k++) d.due("letter " + k, d.x.say(other.charAt(k) - 'a'), 0);
        }
        Due d = new Due("promise 5, backwards is no form of a turned one");
        d.words("w;t/abcc;b/abcc;p/ccba");
        for (int letter : new int[] {2, 2, 1}) d.x.say(letter);
        d.due("ccba", d.x.say(0), 6);
    }

    /** Once by one letter. */
    private static void heardOnceByOneLetter() {
        Due d = new Due("promise 5, once by one letter");
        d.words("w;b/aa;t/aa;b/a;t/ab");
        d.due("a", d.x.say(0), 4);
        d.due("aa", d.x.say(0), 7);
        d.due("aab", d.x.say(1), 8);
        d.due("aaba", d.x.say(0), 12);
        int[] due = {1, 1, 3, 2};
        for (int w = 0; w < 4; w++) d.due("how often " + w, d.x.ofWord(w, 3), due[w]);
    }

    /** A ROW told: letters one behind another, alone (not behind THE ROW). */
    private static void toldAlone() {
        Due d = new Due("promise 7, alone");
        d.words("w;p/abc");
        d.x.say(0);
        d.x.say(1);
        d.due("not behind THE ROW", d.row("c", 0), 0);
        d.due("nor a part of it", d.x.many(1), 2);
        d.due("THE ROW goes on", d.x.say(2), 1);
        d.due("not in the row told", d.row("ab", 0), 0);
        d.due("THE ROW has it", d.x.many(2), 1);
    }

    /** n (0 .. 40). */
    private static void lengthsOfRows() {
        for (int lane = 0; lane < 3; lane++) {
            Due d = new Due("promise 7, lengths in lane " + lane);
            d.words("w;p/a");
            d.x.sheet(0, lane, 60);
            d.due("n -1", d.x.row(0, lane, 0, -1, 3), -2);
            d.due("n 0", d.x.row(0, lane, 0, 0, 3), 0);
            d.due("n 1", d.x.row(0, lane, 0, 1, 3), 1);
            d.due("n 40", d.x.row(0, lane, 0, 40, 3), 40);
            d.due("n 41", d.x.row(0, lane, 0, 41, 3), -2);
            d.due("the last 40", d.x.row(0, lane, 20, 40, 3), 40);
            d.due("one later", d.x.row(0, lane, 21, 40, 3), -13);
            d.due("fault", d.x.fault(), 3);
            d.due("the last one", d.x.row(0, lane, 59, 1, 3), 1);
            d.due("one behind it", d.x.row(0, lane, 60, 1, 3), -13);
            d.due("one ahead of the first", d.x.row(0, lane, -1, 1, 3), -13);
            for (int bad : new int[] {MIN, MAX}) {
                d.due("n " + bad, d.x.row(0, lane, 0, bad, 0), -2);
                d.due("i " + bad, d.x.row(0, lane, bad, 1, 0), -13);
            }
            d.x.sheet(0, lane, 40);
            d.due("all of 40 cells", d.x.row(0, lane, 0, 40, 3), 40);
            d.x.sheet(0, lane, 39);
            d.due("40 of 39 cells", d.x.row(0, lane, 0, 40, 3), -13);
        }
    }

    /** what (0 .. 3, 10 .. 13); NONE: there is no such WORD. */
    private static void whatsOfRows() {
        for (int many = 1; many <= 4; many++) {
            Due d = new Due("promise 7, " + many + " words");
            d.words("w" + ";p/a".repeat(many));
            d.letters(2, "aba");
            for (int bad : new int[] {MIN, -1, 4, 5, 9, 14, 15, MAX}) {
                d.due("what " + bad, d.x.row(2, 2, 0, 3, bad), -2);
                d.due("fault of what " + bad, d.x.fault(), 0);
            }
            d.due("what 0", d.x.row(2, 2, 0, 3, 0), (1 << many) - 1);
            d.due("what 1", d.x.row(2, 2, 0, 3, 1), 1);
            d.due("what 2", d.x.row(2, 2, 0, 3, 2), 1);
            d.due("what 3", d.x.row(2, 2, 0, 3, 3), 2 * many);
            for (int w = 0; w < 4; w++) {
                d.due("word " + w, d.x.row(2, 2, 0, 3, 10 + w), w < many ? 2 : -9);
                d.due("word " + w + " in no letters", d.x.row(2, 2, 0, 0, 10 + w), w < many ? 0 : -9);
                d.due("fault", d.x.fault(), 0);
            }
        }
    }

    /** OUTSIDE: a cell is not 0 .. 2. */
    private static void cellsOfRows() {
        int[] values = {MIN, -1, 0, 1, 2, 3, 97, 256, 258, 259, 65536, MAX};
        boolean[][] taken = {
            {true, false, true, true, true, false, false, true, true, false, true, false},
            {true, false, true, true, true, false, false, false, false, false, true, false},
            {false, false, true, true, true, false, false, false, false, false, false, false}};
        for (int lane = 0; lane < 3; lane++) {
            for (int k = 0; k < values.length; k++) {
                for (int place : new int[] {0, 1, 2}) {
                    Due d = new Due("promise 7, cells in lane " + lane);
                    d.words("w;p/a;p/b;p/c");
                    d.x.sheet(0, lane, 3);
                    d.x.put(0, place, values[k]);
                    int letter = lane == 0 ? (byte) values[k] : lane == 1 ? (short) values[k] : values[k];
                    d.due("cell " + place + " is " + values[k], d.x.row(0, lane, 0, 3, 0), taken[lane][k] ? 1 | 1 << letter : -2);
                    d.due("fault", d.x.fault(), 0);
                    d.due("of another word", d.x.row(0, lane, 0, 3, 13), taken[lane][k] ? -9 : -2);
                }
            }
        }
    }

    private static void cellsBesideTheRow() {
        Due d = new Due("promise 7, cells beside the row");
        d.words("w;p/ab");
        d.letters(0, "dabd");
        d.due("between", d.x.row(0, 2, 1, 2, 0), 1);
        d.due("with the one ahead", d.x.row(0, 2, 0, 3, 0), -2);
        d.due("with the one behind", d.x.row(0, 2, 1, 3, 0), -2);
        d.due("one letter less", d.x.row(0, 2, 1, 1, 0), 0);
        d.due("one letter later", d.x.row(0, 2, 2, 1, 0), 0);
        d.due("none, ahead of a wrong one", d.x.row(0, 2, 3, 0, 0), 0);
        d.due("none, at the end", d.x.row(0, 2, 4, 0, 0), 0);
    }

    /** INDEX also where i is not 0 .. how many there are, if none of them is taken, too. */
    private static void rowsOfNoCells() {
        for (int many : new int[] {0, 1, 60}) {
            Due d = new Due("promise 7, none of " + many + " cells");
            d.words("w;p/a;p/b");
            d.x.sheet(0, 1, many);
            int[] due = {0, -9, -9, 0};
            for (int what = 0; what < 4; what++) {
                for (int i : new int[] {0, many}) {
                    d.due("from " + i + ", what " + what, d.x.row(0, 1, i, 0, what), due[what]);
                    d.due("fault", d.x.fault(), 0);
                }
                for (int i : new int[] {-1, many + 1, MIN, MAX}) {
                    d.due("from " + i + ", what " + what, d.x.row(0, 1, i, 0, what), -13);
                    d.due("fault", d.x.fault(), 3);
                }
            }
        }
    }

    /** UNKNOWN; OUTSIDE: lane, n, what; FAULTS CAST, NULL, INDEX; STATE; OUTSIDE: a cell. */
    private static void refusalsOfRowInOrder() {
        int[][] calls = {{4, 3, -1, 41, 4, -1, 0}, {-1, 0, 0, 1, 0, -1, 0}, {0, 3, -1, 41, 4, -2, 0}, {1, 0, -1, 41, 0, -2, 0},
            {1, 2, -1, 1, 14, -2, 0}, {0, 0, -1, 40, 0, -12, 2}, {0, 1, 0, 1, 10, -12, 2}, {1, 0, -1, 40, 0, -11, 1},
            {1, 2, 0, 0, 13, -11, 1}, {0, 2, 3, 1, 0, -13, 3}, {0, 2, 2, 2, 13, -13, 3}};
        for (int round = 0; round < 2; round++) {
            Due d = new Due("promise 7, in their order, " + round + " words");
            if (round == 1) d.words("w;p/a");
            d.letters(0, "dda");
            for (int[] c : calls) {
                String call = "row(" + c[0] + ", " + c[1] + ", " + c[2] + ", " + c[3] + ", " + c[4] + ")";
                d.due(call, d.x.row(c[0], c[1], c[2], c[3], c[4]), c[5]);
                d.due("fault of " + call, d.x.fault(), c[6]);
            }
            d.due("state, then a cell", d.x.row(0, 2, 0, 1, 0), round == 0 ? -3 : -2);
            d.due("fault", d.x.fault(), 0);
            d.due("state alone", d.x.row(0, 2, 2, 1, 0), round == 0 ? -3 : 1);
            d.due("state of no letters", d.x.row(0, 2, 3, 0, 13), round == 0 ? -3 : -9);
        }
    }

    /** Behind how many letters the first is HEARD (1; NONE), behind how many all were HEARD (2; NONE). */
    private static void firstAndAllHeard() {
        String bs = "b".repeat(35);
        Object[][] rows = {{"", -9, -9}, {"aaa", -9, -9}, {"aaaa", 4, -9}, {"caaa", 4, -9}, {"caaaa", 4, 5}, {"aaaac", 4, 5},
            {bs + "baaaa", 40, -9}, {bs + "bbcaa", -9, -9}, {bs + "caaaa", 39, 40}, {"caaaa" + bs, 4, 5}, {"caaabbaaaa", 4, 10}};
        for (Object[] row : rows) {
            Due d = new Due("promise 7, row " + row[0]);
            d.words("w;p/aaaa;b/caaa");
            d.due("the first", d.row((String) row[0], 1), (Integer) row[1]);
            d.due("all", d.row((String) row[0], 2), (Integer) row[2]);
        }
        Due d = new Due("promise 7, heard by the first letter");
        d.words("w;p/a;t/a");
        d.due("the first", d.row("ab", 1), 1);
        d.due("all", d.row("ab", 2), 1);
    }

    /** How often any are HEARD in all (two by one letter twice). */
    private static void timesHeard() {
        Due d = new Due("promise 7, how often");
        d.words("w;p/a;b/a;t/a;p/a");
        d.due("no letters", d.row("", 3), 0);
        d.due("four by one letter", d.row("a", 3), 4);
        d.due("four by each of 40", d.row("a".repeat(40), 3), 160);
        d.due("none by 40", d.row("b".repeat(40), 3), 0);
        d.words("w;b/ab;p/b");
        d.due("two by one letter", d.row("ab", 3), 2);
        d.due("once by two forms", d.row("aba", 3), 3);
    }

    /** In how many places (where its FORM begins) WORD w STANDS. */
    private static void placesOfWords() {
        Due d = new Due("promise 7, places");
        d.words("w;p/aaaa;b/abab;t/aaab;p/c");
        String as = "a".repeat(40);
        d.due("all but the last three", d.row(as, 10), 37);
        d.due("as many letters as it has", d.row("aaaa", 10), 1);
        d.due("one letter less", d.row("aaa", 10), 0);
        d.due("both forms", d.row("ababa", 11), 2);
        d.due("at both ends", d.row("aaab" + "c".repeat(32) + "aaba", 12), 2);
        d.due("at the last letter", d.row("a".repeat(39) + "c", 13), 1);
        d.due("at the first letter", d.row("c" + "a".repeat(39), 13), 1);
    }
}
