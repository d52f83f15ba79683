/** The edges of promises 14 to 18: reading, back, kinds, lasts, odds. */
public final class HeardBoundsTest {
    private static final int MIN = Integer.MIN_VALUE, MAX = Integer.MAX_VALUE;
    private static final long LOST = OneLongRow.LOST;

    public static void main(String[] args) {
        eightReadings();
        refusalsInOrder();
        wordsOfReadings();
        lengthsOfReadings();
        cellsOfReadings();
        readingsOfNoCells();
        readingsKeepTheirLetters();
        backEdges();
        backWithoutWords();
        kindsFromNoneToAll();
        kindsOfOneLetter();
        lastsFromNoneToAll();
        lastsOfOneLetter();
        alone();
        wordsOfKindsAndLasts();
        oddsRefused();
        oddsInLeastTerms();
        oddsAheadOfAnEmptyRow();
        Due.end();
    }

    private static Due of(String text) {
        Due d = new Due(text);
        d.words(text);
        return d;
    }

    /** READINGS, 8 at most, numbered by how many there are. */
    private static void eightReadings() {
        Due d = of("w;p/ab");
        d.due("none", d.x.many(3), 0);
        d.letters(2, "ab");
        for (int k = 0; k < 8; k++) {
            d.due("reading " + k, d.x.reading(0, 2, 2, 0, 2, 1), k);
            d.due("how many", d.x.many(3), k + 1);
        }
        d.due("the ninth", d.x.reading(0, 2, 2, 0, 2, 0), -4);
        d.due("fault", d.x.fault(), 0);
        d.due("is not taken", d.x.many(3), 8);
        d.due("nor does it count", d.x.kinds(0), 7);
        d.due("one back", d.x.back(1), 7);
        d.due("the eighth anew", d.x.reading(0, 2, 2, 0, 2, 0), 7);
        d.due("counts", d.x.kinds(0), 0);
        d.due("the ninth", d.x.reading(0, 2, 2, 0, 2, 0), -4);
    }

    /** UNKNOWN: WORD, SHEET; OUTSIDE: lane, n, stands; FAULTS CAST, NULL, INDEX; OUTSIDE: a cell; FULL. */
    private static void refusalsInOrder() {
        int[][] calls = {{1, 4, 3, -1, 9, 2, -1, 0}, {-1, 0, 2, 0, 1, 1, -1, 0}, {0, 4, 3, -1, 9, 2, -1, 0}, {0, -1, 2, 0, 1, 1, -1, 0},
            {0, 0, 3, -1, 1, 1, -2, 0}, {0, 0, -1, -1, 1, 1, -2, 0}, {0, 0, 0, -1, 9, 1, -2, 0}, {0, 0, 0, -1, -1, 1, -2, 0}, {0, 1, 2, 0, 9, 0, -2, 0},
            {0, 0, 0, -1, 1, 2, -2, 0}, {0, 1, 0, -1, 1, -1, -2, 0}, {0, 0, 1, -1, 1, 1, -12, 2}, {0, 0, 0, 0, 1, 1, -12, 2},
            {0, 1, 0, -1, 8, 1, -11, 1}, {0, 1, 2, 0, 0, 0, -11, 1}, {0, 0, 2, -1, 1, 1, -13, 3}, {0, 0, 2, 2, 2, 1, -13, 3}, {0, 0, 2, 0, 4, 1, -13, 3},
            {0, 0, 2, 0, 3, 1, -2, 0}, {0, 0, 2, 0, 1, 0, -2, 0}};
        for (int many : new int[] {0, 7, 8}) {
            Due d = of("w;p/ab");
            d.letters(2, "ab");
            for (int k = 0; k < many; k++) d.x.reading(0, 2, 2, 0, 2, 1);
            d.letters(0, "daa");
            for (int[] c : calls) {
                String call = "reading(" + c[0] + ", " + c[1] + ", " + c[2] + ", " + c[3] + ", " + c[4] + ", " + c[5] + ") behind " + many;
                d.due(call, d.x.reading(c[0], c[1], c[2], c[3], c[4], c[5]), c[6]);
                d.due("fault of " + call, d.x.fault(), c[7]);
                d.due("readings behind " + call, d.x.many(3), many);
            }
            d.due("one that is right, behind " + many, d.x.reading(0, 0, 2, 1, 2, 1), many == 8 ? -4 : many);
            d.due("fault of it", d.x.fault(), 0);
        }
        Due none = new Due("promise 14, no words");
        none.due("no word, no sheet, no lane", none.x.reading(0, 4, 3, 0, 9, 2), -1);
        none.due("no word", none.x.reading(0, 0, 0, 0, 0, 0), -1);
        none.due("fault", none.x.fault(), 0);
    }

    private static void wordsOfReadings() {
        for (int many = 1; many <= 4; many++) {
            Due d = of("w" + ";p/a".repeat(many));
            d.letters(2, "a");
            for (int bad : new int[] {MIN, -1, many, MAX}) {
                d.due("word " + bad, d.x.reading(bad, 2, 2, 0, 1, 1), -1);
                d.due("sheet " + bad, d.x.reading(0, bad == many ? 4 : bad, 2, 0, 1, 1), -1);
            }
            d.due("the first", d.x.reading(0, 2, 2, 0, 1, 1), 0);
            d.due("the last", d.x.reading(many - 1, 2, 2, 0, 1, 1), 1);
        }
    }

    /** n (0 .. 8), stands (0, 1). */
    private static void lengthsOfReadings() {
        for (int lane = 0; lane < 3; lane++) {
            Due d = of("w;p/aaaa");
            d.x.sheet(1, lane, 60);
            for (int bad : new int[] {MIN, -1, 9, MAX}) d.due("n " + bad, d.x.reading(0, 1, lane, 0, bad, 0), -2);
            for (int bad : new int[] {MIN, -1, 2, MAX}) d.due("stands " + bad, d.x.reading(0, 1, lane, 0, 8, bad), -2);
            d.due("n 0", d.x.reading(0, 1, lane, 0, 0, 0), 0);
            d.due("n 1", d.x.reading(0, 1, lane, 0, 1, 0), 1);
            d.due("n 8", d.x.reading(0, 1, lane, 0, 8, 1), 2);
            d.due("the last eight", d.x.reading(0, 1, lane, 52, 8, 1), 3);
            d.due("one later", d.x.reading(0, 1, lane, 53, 8, 1), -13);
            d.due("all are so", d.x.kinds(0), 7);
            for (int bad : new int[] {MIN, -1, 61, MAX}) d.due("from " + bad, d.x.reading(0, 1, lane, bad, 0, 1), -13);
        }
        String[] rows = {"aaaabbbb", "bbbbaaaa", "bbaaaabb", "aaabaaab", "aaaa", "aaa", ""};
        int[] stands = {1, 1, 1, 0, 1, 0, 0};
        for (int k = 0; k < rows.length; k++) {
            Due d = of("w;p/aaaa");
            d.due(rows[k], d.reading(0, rows[k], stands[k]), 0);
            d.due("is so", d.x.kinds(0), 7);
            d.due("the other way", d.reading(0, rows[k], 1 - stands[k]), 1);
            d.due("is not so", d.x.kinds(0), 0);
        }
    }

    private static void cellsOfReadings() {
        int[] values = {MIN, -1, 0, 1, 2, 3, 97, MAX};
        for (int value : values) {
            for (int place = 0; place < 3; place++) {
                Due d = of("w;p/a");
                d.x.sheet(1, 2, 3);
                d.x.put(1, place, value);
                boolean taken = value >= 0 && value <= 2;
                d.due("cell " + place + " is " + value, d.x.reading(0, 1, 2, 0, 3, 1), taken ? 0 : -2);
                d.due("fault", d.x.fault(), 0);
                d.due("without it", d.x.reading(0, 1, 2, place == 0 ? 1 : 0, place == 1 ? 1 : 2, 1), taken ? 1 : 0);
            }
        }
    }

    private static void readingsOfNoCells() {
        for (int many : new int[] {0, 1, 60}) {
            Due d = of("w;b/ab");
            d.x.sheet(0, 0, many);
            int[][] calls = {{-1, -13, 3}, {many + 1, -13, 3}, {MIN, -13, 3}, {MAX, -13, 3}, {0, 0, 0}, {many, 1, 0}};
            for (int[] c : calls) {
                d.due("none of " + many + " from " + c[0], d.x.reading(0, 0, 0, c[0], 0, 0), c[1]);
                d.due("fault from " + c[0], d.x.fault(), c[2]);
            }
            d.due("it does not stand in nothing", d.x.kinds(0), 7);
        }
    }

    private static void readingsKeepTheirLetters() {
        Due d = of("w;p/ab");
        d.letters(0, "ab");
        d.x.reading(0, 0, 2, 0, 2, 1);
        d.x.put(0, 0, 2);
        d.due("a cell told anew", d.x.kinds(0), 7);
        d.x.lose(0);
        d.due("a sheet lost", d.x.lasts(0), 2);
        d.due("another row", d.row("cc", 0), 0);
        d.due("a row told changes no reading", d.x.lasts(0), 2);
        d.x.hush();
        d.due("nor does hush", d.x.many(3), 1);
    }

    /** The last n READINGS (0 .. as many as there are) are taken back: how many are left. */
    private static void backEdges() {
        for (int many = 0; many <= 8; many++) {
            for (int n = 0; n <= many; n++) {
                Due d = of("w;p/ab;p/a");
                // The first ones are so, the last n are not.
                for (int k = 0; k < many; k++) d.reading(1, "ba", k < many - n ? 1 : 0);
                for (int bad : new int[] {MIN, -1, many + 1, MAX}) d.due("back " + bad, d.x.back(bad), -2);
                d.due("ahead", d.x.kinds(0), n == 0 ? 7 : 0);
                d.due("back " + n + " of " + many, d.x.back(n), many - n);
                d.due("how many", d.x.many(3), many - n);
                d.due("behind", d.x.kinds(0), 7);
                d.due("numbered on", d.reading(0, "ab", 1), many - n < 8 ? many - n : -4);
            }
        }
    }

    private static void backWithoutWords() {
        Due d = new Due("promise 15, no words");
        d.due("none", d.x.back(0), 0);
        for (int bad : new int[] {MIN, -1, 1, MAX}) d.due("back " + bad, d.x.back(bad), -2);
        d.due("back names no fault", d.x.fault(), 0);
    }

    private static void kindsAre(String text, String row, int stands, int due) {
        Due d = of(text);
        d.reading(0, row, stands);
        d.due("kinds by " + row + " " + stands, d.x.kinds(0), due);
    }

    private static void kindsFromNoneToAll() {
        Due d = of("w;t/abc");
        d.due("no readings", d.x.kinds(0), 7);
        for (String kind : new String[] {"p", "b", "t"}) {
            String text = "w;" + kind + "/abc";
            kindsAre(text, "abc", 1, 7);
            kindsAre(text, "abc", 0, 0);
            kindsAre(text, "cba", 1, 2);
            kindsAre(text, "cba", 0, 5);
            kindsAre(text, "bca", 1, 4);
            kindsAre(text, "bca", 0, 3);
            kindsAre(text, "bcacba", 1, 6);
            kindsAre(text, "bcacba", 0, 1);
            kindsAre(text, "cab", 1, 0);
            kindsAre(text, "cab", 0, 7);
            kindsAre(text, "", 1, 0);
            kindsAre(text, "", 0, 7);
            kindsAre(text, "aaaaaabc", 1, 7);
            kindsAre(text, "aaaaacba", 1, 2);
        }
        kindsAre("w;p/ab", "ba", 1, 6);
        kindsAre("w;p/ab", "ba", 0, 1);
        kindsAre("w;p/abba", "bbaa", 1, 4);
    }

    private static void kindsOfOneLetter() {
        for (String kind : new String[] {"p", "b", "t"}) {
            kindsAre("w;" + kind + "/b", "b", 1, 7);
            kindsAre("w;" + kind + "/b", "b", 0, 0);
            kindsAre("w;" + kind + "/b", "c", 1, 0);
            kindsAre("w;" + kind + "/b", "c", 0, 7);
            kindsAre("w;" + kind + "/bb", "bbb", 1, 7);
            kindsAre("w;" + kind + "/bb", "bab", 1, 0);
        }
    }

    private static void lastsAre(String text, String row, int stands, int due) {
        Due d = of(text);
        d.reading(0, row, stands);
        d.due("lasts by " + row + " " + stands, d.x.lasts(0), due);
        d.due("the letter is as it was", d.x.all(-1), text.length() - 4);
    }

    private static void lastsFromNoneToAll() {
        lastsAre("w;p/ab", "abacaa", 1, 7);
        lastsAre("w;p/ab", "abacaa", 0, 0);
        lastsAre("w;p/ab", "ab", 1, 2);
        lastsAre("w;p/ab", "ab", 0, 5);
        lastsAre("w;p/ab", "ba", 1, 0);
        lastsAre("w;b/ab", "ba", 1, 2);
        lastsAre("w;b/ab", "ca", 1, 4);
        lastsAre("w;b/ab", "abca", 1, 6);
        lastsAre("w;t/ab", "ca", 1, 4);
        lastsAre("w;t/abc", "bca", 1, 4);
        lastsAre("w;t/abc", "baa", 1, 1);
        lastsAre("w;t/abc", "cba", 1, 0);
        lastsAre("w;b/abc", "cba", 1, 4);
        lastsAre("w;p/abca", "aaaaabcb", 1, 2);
        lastsAre("w;p/abca", "abcbabcc", 1, 6);
        lastsAre("w;p/ab", "", 1, 0);
        lastsAre("w;p/ab", "", 0, 7);
    }

    /** Of a word of one letter the last is the first, too. */
    private static void lastsOfOneLetter() {
        for (String kind : new String[] {"p", "b", "t"}) {
            lastsAre("w;" + kind + "/a", "b", 1, 2);
            lastsAre("w;" + kind + "/a", "b", 0, 5);
            lastsAre("w;" + kind + "/a", "cab", 1, 7);
            lastsAre("w;" + kind + "/a", "cab", 0, 0);
            lastsAre("w;" + kind + "/a", "ca", 0, 2);
        }
    }

    /** In place of what it is alone: its kind alone, its last letter alone, the other words as they are. */
    private static void alone() {
        Due d = of("w;p/ab;b/ab");
        d.reading(0, "ca", 1);
        d.due("no kind makes it so", d.x.kinds(0), 0);
        d.due("no last of a plain one", d.x.lasts(0), 0);
        d.due("nor another word", d.x.kinds(1), 0);
        d.due("nor another word", d.x.lasts(1), 0);
        d.x.back(1);
        d.reading(1, "ca", 1);
        d.due("the last of a both one", d.x.lasts(1), 4);
        d.due("no kind", d.x.kinds(1), 0);
        d.x.spell(1, 1, 2);
        d.due("by words as they are now", d.x.kinds(1), 6);
        d.due("and the other is free", d.x.kinds(0), 7);
        d.due("kind is as it was", d.x.ofWord(1, 0), 1);
    }

    private static void wordsOfKindsAndLasts() {
        for (int many = 1; many <= 4; many++) {
            Due d = of("w" + ";p/a".repeat(many));
            for (int bad : new int[] {MIN, -1, many, MAX}) {
                d.due("kinds " + bad, d.x.kinds(bad), -1);
                d.due("lasts " + bad, d.x.lasts(bad), -1);
            }
            d.reading(many - 1, "b", 1);
            d.due("kinds of the last", d.x.kinds(many - 1), 0);
            d.due("lasts of the last", d.x.lasts(many - 1), 2);
            d.due("of a word that is not the reading's", d.x.lasts(0), many == 1 ? 2 : 0);
        }
    }

    /** n 0 .. 30; which 0, 1; LOST: OUTSIDE; STATE. */
    private static void oddsRefused() {
        Due none = new Due("promise 18, no words");
        Due d = of("w;p/a");
        int[][] bad = {{-1, 0}, {31, 0}, {-1, 1}, {31, 1}, {MIN, 0}, {MAX, 1}, {0, -1}, {0, 2}, {30, -1}, {30, 2}, {1, MIN}, {1, MAX}, {31, 2}};
        for (int[] c : bad) {
            none.due("odds " + c[0] + " " + c[1], none.x.odds(c[0], c[1]), LOST);
            d.due("odds " + c[0] + " " + c[1], d.x.odds(c[0], c[1]), LOST);
        }
        none.due("no words", none.x.odds(0, 0), LOST);
        none.due("no words", none.x.odds(30, 1), LOST);
        none.due("odds names no fault", none.x.fault(), 0);
    }

    private static void oddsAre(Due d, int n, long upper, long lower) {
        d.due("upper of " + n, d.x.odds(n, 0), upper);
        d.due("lower of " + n, d.x.odds(n, 1), lower);
    }

    /** Shares are told as upper and lower number (above 0) in least terms. */
    private static void oddsInLeastTerms() {
        Due one = of("w;p/a");
        oddsAre(one, 0, 0, 1);
        oddsAre(one, 1, 1, 3);
        oddsAre(one, 2, 5, 9);
        oddsAre(one, 30, 205891132094649L - (1L << 30), 205891132094649L);
        Due abc = of("w;p/a;p/b;p/c");
        oddsAre(abc, 2, 0, 1);
        oddsAre(abc, 3, 2, 9);
        oddsAre(abc, 4, 4, 9);
        oddsAre(abc, 5, 50, 81);
        oddsAre(abc, 30, (205891132094649L - 3 * (1L << 30) + 3) / 27, 7625597484987L);
        Due far = of("w;p/abbc;p/abcb;p/accc;p/abbb");
        oddsAre(far, 15, 0, 1);
        oddsAre(far, 16, 8, 14348907);
        Due both = of("w;b/ab");
        oddsAre(both, 1, 0, 1);
        oddsAre(both, 2, 2, 9);
    }

    /** THE ROW being empty ahead: what was SAID does not count. */
    private static void oddsAheadOfAnEmptyRow() {
        Due d = of("w;p/ab");
        oddsAre(d, 2, 1, 9);
        d.x.say(0);
        oddsAre(d, 1, 0, 1);
        oddsAre(d, 2, 1, 9);
        d.x.say(1);
        oddsAre(d, 0, 0, 1);
        d.reading(0, "ab", 0);
        oddsAre(d, 2, 1, 9);
        d.x.spell(0, 1, 0);
        oddsAre(d, 3, 5, 27);
    }
}
