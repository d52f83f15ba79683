/** Promises 5 to 7: say, hush, row. */
public final class RowsTest {
    private static final int MIN = Integer.MIN_VALUE, MAX = Integer.MAX_VALUE;

    public static void main(String[] args) {
        saying();
        sayingInFull();
        hushing();
        rowsTold();
        rowsRefused();
        Due.end();
    }

    private static void saying() {
        Due d = new Due("promise 5");
        d.due("letter ahead of words", d.x.say(3), -2);
        d.due("no words", d.x.say(0), -3);
        d.words("w;p/ab;b/abc;t/abc;p/c");
        int[] letters = {0, 1, 2, 0, 2, 1, 0, 1, 2, 0};
        // abc is heard as abc, cba (word 1), as abc, bca (word 2)
        int[] due = {0, 1, 14, 4, 8, 0, 2, 1, 14, 4};
        for (int k = 0; k < letters.length; k++) d.due("letter " + k, d.x.say(letters[k]), due[k]);
        for (int bad : new int[] {-1, 3, MIN, MAX}) d.due("say " + bad, d.x.say(bad), -2);
        d.due("said", d.x.many(1), 10);
        d.words("w;b/aba;t/aa");
        d.x.say(0);
        d.due("both forms alike, once", d.x.say(0), 2);
        d.x.say(1);
        d.due("palindrome, once", d.x.say(0), 1);
    }

    private static void sayingInFull() {
        Due d = new Due("promise 5, full");
        d.words("w;p/a");
        for (int k = 0; k < 60; k++) d.due("letter " + k, d.x.say(k % 2), 1 - k % 2);
        d.due("the 61st", d.x.say(0), -4);
        d.due("a wrong 61st", d.x.say(3), -2);
        d.due("said", d.x.many(1), 60);
        d.due("heard", d.x.ofWord(0, 3), 30);
        d.due("hush", d.x.hush(), 60);
        d.due("say again", d.x.say(0), 1);
    }

    private static void hushing() {
        Due d = new Due("promise 6");
        d.due("no words", d.x.hush(), -3);
        d.words("w;p/ab");
        d.due("nothing said", d.x.hush(), 0);
        d.x.say(0);
        d.reading(0, "ab", 1);
        d.due("one said", d.x.hush(), 1);
        d.due("said", d.x.many(1), 0);
        d.due("readings stay", d.x.many(3), 1);
        d.due("not behind what was hushed", d.x.say(1), 0);
        d.due("heard", d.x.ofWord(0, 3), 0);
    }

    private static void rowsTold() {
        int[] whats = {0, 1, 2, 3, 10, 11, 12, 13};
        Object[][] rows = {
            {"", 0, -9, -9, 0, 0, 0, 0, -9}, {"b", 0, -9, -9, 0, 0, 0, 0, -9}, {"ab", 1, 2, -9, 1, 1, 0, 0, -9},
            {"cbaab", 7, 3, 5, 3, 1, 1, 1, -9}, {"aaba", 5, 3, -9, 3, 1, 0, 2, -9}, {"cccc", 0, -9, -9, 0, 0, 0, 0, -9},
            {"abcabcba", 3, 2, -9, 5, 2, 3, 0, -9}, {"abaabc", 7, 2, 6, 5, 2, 1, 2, -9}};
        for (Object[] row : rows) {
            Due d = new Due("promise 7");
            d.words("w;p/ab;b/abc;t/aab");
            d.x.say(0);
            for (int k = 0; k < 8; k++) {
                d.due("row " + row[0] + " " + whats[k], d.row((String) row[0], whats[k]), (Integer) row[k + 1]);
                d.due("fault", d.x.fault(), 0);
            }
            d.due("THE ROW is as it was", d.x.many(1), 1);
        }
        Due d = new Due("promise 7, one letter and forty");
        d.words("w;p/a");
        d.due("one letter", d.row("a", 0), 1);
        d.due("one letter, first", d.row("a", 1), 1);
        d.due("one letter, all", d.row("ab", 2), 1);
        d.words("w;p/ab;b/abc;t/aab");
        String forty = "ab".repeat(20);
        d.due("forty letters: ab 20 times, aba 19 times", d.row(forty, 3), 39);
        d.due("of the middle", d.x.row(2, 2, 1, 3, 3), 1);
        d.due("of the end", d.x.row(2, 2, 40, 0, 0), 0);
    }

    private static void rowsRefused() {
        Due d = new Due("promise 7, refusals");
        d.x.sheet(0, 0, 45);
        d.x.sheet(1, 1, 2);
        d.x.put(0, 3, 3);
        d.x.put(0, 5, -1);
        int[][] ahead = {{4, 3, 0, 0, 0, -1, 0}, {-1, 0, 0, 0, 0, -1, 0}, {0, 3, 0, 1, 0, -2, 0}, {0, 0, 0, 41, 0, -2, 0}, {0, 0, 0, -1, 0, -2, 0},
            {2, 0, 0, 1, 4, -2, 0}, {2, 0, 0, 1, -1, -2, 0}, {1, 0, 9, 1, 9, -2, 0}, {1, 0, 9, 1, 14, -2, 0}, {1, 0, 9, 1, MIN, -2, 0},
            {1, 0, 9, 1, MAX, -2, 0}, {1, 0, 9, 1, 0, -12, 2}, {2, 0, 9, 1, 0, -11, 1}, {1, 1, 1, 2, 0, -13, 3}, {1, 1, 3, 0, 0, -13, 3},
            {1, 1, -1, 0, 0, -13, 3}, {1, 1, MAX, 2, 0, -13, 3}, {1, 1, MIN, 2, 0, -13, 3}};
        int[][] without = {{0, 0, 0, 4, 0, -3, 0}, {0, 0, 0, 1, 13, -3, 0}};
        int[][] with = {{0, 0, 0, 4, 0, -2, 0}, {0, 0, 5, 1, 13, -2, 0}, {0, 0, 0, 3, 0, 1, 0}, {0, 0, 0, 3, 13, -9, 0}, {0, 0, 6, 39, 10, 39, 0}};
        for (int[] c : ahead) asked(d, c);
        for (int[] c : without) asked(d, c);
        d.words("w;p/a");
        for (int[] c : ahead) asked(d, c);
        for (int[] c : with) asked(d, c);
    }

    private static void asked(Due d, int[] c) {
        String call = "row(" + c[0] + ", " + c[1] + ", " + c[2] + ", " + c[3] + ", " + c[4] + ")";
        d.x.cell(0, -1, 0);
        d.due(call, d.x.row(c[0], c[1], c[2], c[3], c[4]), c[5]);
        d.due("fault of " + call, d.x.fault(), c[6]);
    }
}
