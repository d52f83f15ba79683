/** Promises 14 to 18: reading, back, kinds, lasts, odds. */
public final class HeardTest {
    private static final int MIN = Integer.MIN_VALUE, MAX = Integer.MAX_VALUE;

    public static void main(String[] args) {
        readings();
        readingsRefused();
        takenBack();
        kindsAndLasts();
        allReadingsCount();
        odds();
        Due.end();
    }

    private static void readings() {
        Due d = new Due("promise 14");
        d.words("w;p/ab;b/abc");
        for (int k = 0; k < 8; k++) {
            d.due("reading " + k, d.reading(k % 2, "abcabcab", 1), k);
            d.due("many", d.x.many(3), k + 1);
        }
        d.due("a ninth", d.reading(0, "ab", 1), -4);
        d.due("fault", d.x.fault(), 0);
        d.due("a ninth, wrong cell", d.reading(0, "ad", 1), -2);
        d.due("a ninth, beyond", d.x.reading(0, 2, 2, 1, 2, 0), -13);
        d.due("many", d.x.many(3), 8);
        d.due("back", d.x.back(8), 0);
        d.due("of no letters", d.x.reading(0, 2, 2, 2, 0, 0), 0);
        d.due("THE ROW is as it was", d.x.many(1), 0);
    }

    private static void readingsRefused() {
        Due d = new Due("promise 14, refusals");
        d.x.sheet(0, 0, 9);
        d.x.sheet(1, 1, 2);
        d.x.put(0, 3, 3);
        d.x.put(0, 5, -1);
        d.due("no words", d.x.reading(0, 0, 0, 0, 1, 1), -1);
        d.words("w;p/ab;b/abc");
        int[][] calls = {{2, 0, 3, 0, 0, 0, -1, 0}, {-1, 0, 0, 0, 0, 0, -1, 0}, {0, 4, 3, 0, 0, 0, -1, 0}, {0, -1, 0, 0, 0, 0, -1, 0},
            {0, 0, 3, 0, 1, 1, -2, 0}, {0, 0, -1, 0, 1, 1, -2, 0}, {0, 1, 0, 0, 9, 1, -2, 0}, {0, 1, 0, 0, -1, 1, -2, 0},
            {0, 2, 0, 0, 1, 2, -2, 0}, {0, 2, 0, 0, 1, -1, -2, 0}, {0, 1, 0, 9, 1, 1, -12, 2}, {0, 2, 0, 9, 1, 1, -11, 1},
            {0, 1, 1, 1, 2, 1, -13, 3}, {0, 1, 1, 3, 0, 1, -13, 3}, {0, 1, 1, MIN, 0, 1, -13, 3}, {0, 1, 1, MAX, 8, 1, -13, 3},
            {0, 0, 0, 0, 4, 1, -2, 0}, {0, 0, 0, 5, 1, 0, -2, 0}};
        for (int[] c : calls) {
            String call = "reading(" + c[0] + ", " + c[1] + ", " + c[2] + ", " + c[3] + ", " + c[4] + ", " + c[5] + ")";
            d.x.cell(0, -1, 0);
            d.due(call, d.x.reading(c[0], c[1], c[2], c[3], c[4], c[5]), c[6]);
            d.due("fault of " + call, d.x.fault(), c[7]);
            d.due("many", d.x.many(3), 0);
        }
        d.due("just before", d.x.reading(0, 0, 0, 0, 3, 0), 0);
        d.due("just behind", d.x.reading(1, 0, 0, 6, 3, 0), 1);
    }

    private static void takenBack() {
        Due d = new Due("promise 15");
        d.due("none without words", d.x.back(0), 0);
        d.due("one without words", d.x.back(1), -2);
        d.words("w;p/ab");
        for (int k = 0; k < 5; k++) d.reading(0, k == 0 ? "ab" : "b", 1);
        d.due("below", d.x.back(-1), -2);
        d.due("beyond", d.x.back(6), -2);
        d.due("edges", d.x.back(MIN), -2);
        d.due("edges", d.x.back(MAX), -2);
        d.due("many", d.x.many(3), 5);
        d.due("kinds", d.x.kinds(0), 0);
        d.due("none", d.x.back(0), 5);
        d.due("the last four", d.x.back(4), 1);
        d.due("kinds by the first", d.x.kinds(0), 7);
        d.due("numbered anew", d.reading(0, "ab", 1), 1);
        d.due("all", d.x.back(2), 0);
    }

    private static void kindsAndLasts() {
        Due d = new Due("promises 16, 17");
        d.due("kinds without words", d.x.kinds(0), -1);
        d.due("lasts without words", d.x.lasts(0), -1);
        d.words("w;t/abc;p/a");
        d.due("no readings", d.x.kinds(0), 7);
        d.due("no readings", d.x.lasts(0), 7);
        d.reading(0, "cba", 0);
        d.due("not backwards", d.x.kinds(0), 5);
        d.due("cba not heard: any last", d.x.lasts(0), 7);
        d.reading(0, "bca", 1);
        d.due("turned alone", d.x.kinds(0), 4);
        d.due("last is c", d.x.lasts(0), 4);
        d.due("kind is as it was", d.x.ofWord(0, 0), 2);
        d.due("letter is as it was", d.x.ofWord(0, 12), 2);
        d.due("lasts of another", d.x.lasts(1), 7);
        d.x.back(2);
        d.reading(1, "bbc", 0);
        d.due("neither b nor c", d.x.lasts(1), 1);
        d.due("kinds of a letter", d.x.kinds(1), 7);
        d.reading(1, "bbc", 1);
        d.due("none can be", d.x.kinds(1), 0);
        d.due("none can be", d.x.lasts(1), 0);
        d.x.back(2);
        d.reading(1, "", 1);
        d.due("nothing stands in an empty row", d.x.lasts(1), 0);
        for (int bad : new int[] {-1, 2, MIN, MAX}) {
            d.due("kinds " + bad, d.x.kinds(bad), -1);
            d.due("lasts " + bad, d.x.lasts(bad), -1);
        }
    }

    private static void allReadingsCount() {
        Due d = new Due("promises 16, 17, all readings");
        d.words("w;p/ab;p/c");
        d.reading(1, "b", 1);
        d.due("kinds: another's reading is not so", d.x.kinds(0), 0);
        d.due("lasts: another's reading is not so", d.x.lasts(0), 0);
        d.due("lasts of the other", d.x.lasts(1), 2);
        d.x.spell(1, 0, 1);
        d.due("kinds: it is so now", d.x.kinds(0), 7);
        d.due("lasts: it is so now", d.x.lasts(0), 7);
        d.reading(0, "ba", 1);
        d.due("kinds: backwards or turned", d.x.kinds(0), 6);
        d.due("lasts of a plain one: the first letter is no b", d.x.lasts(0), 0);
    }

    private static void odds() {
        Due d = new Due("promise 18");
        d.due("no words", d.x.odds(0, 0), OneLongRow.LOST);
        d.words("w;p/a;p/b;p/c");
        long[][] due = {{0, 1}, {0, 1}, {0, 1}, {2, 9}, {4, 9}, {50, 81}};
        for (int n = 0; n < due.length; n++) {
            d.due("upper " + n, d.x.odds(n, 0), due[n][0]);
            d.due("lower " + n, d.x.odds(n, 1), due[n][1]);
        }
        d.words("w;p/a");
        d.x.say(0);
        d.due("upper 30", d.x.odds(30, 0), 205891132094649L - 1073741824L);
        d.due("lower 30", d.x.odds(30, 1), 205891132094649L);
        int[][] bad = {{-1, 0}, {31, 0}, {MIN, 1}, {MAX, 1}, {1, -1}, {1, 2}, {1, MIN}, {1, MAX}};
        for (int[] c : bad) d.due("odds " + c[0] + " " + c[1], d.x.odds(c[0], c[1]), OneLongRow.LOST);
    }
}
