/** The edges of promises 8 to 13: over, all, have, free, longest, spare. */
public final class AllInOneBoundsTest {
    private static final int MIN = Integer.MIN_VALUE, MAX = Integer.MAX_VALUE;
    private static final long LOST = OneLongRow.LOST;
    private static final long ROWS_OF_30 = 205891132094649L;

    public static void main(String[] args) {
        overRefused();
        overFromNoneToWhole();
        overAsTheyAre();
        allRefused();
        allFromOneToSixteen();
        firstOfSeveral();
        countsRefused();
        haveAroundAll();
        countsOfNoLetters();
        countsOfThirtyLetters();
        countsAskedInAnyOrder();
        longestFromNoneToNoEnd();
        spareFromNoneToAll();
        spareInEachForm();
        stateAheadOfWords();
        Due.end();
    }

    private static Due of(String text) {
        Due d = new Due(text);
        d.words(text);
        return d;
    }

    /** UNKNOWN: either. */
    private static void overRefused() {
        for (int many = 1; many <= 4; many++) {
            Due d = of("w" + ";p/ab".repeat(many));
            for (int bad : new int[] {MIN, -1, many, MAX}) {
                d.due("first " + bad, d.x.over(bad, 0), -1);
                d.due("second " + bad, d.x.over(0, bad), -1);
                d.due("both " + bad, d.x.over(bad, bad), -1);
            }
            d.due("the last, the last", d.x.over(many - 1, many - 1), 2);
            d.due("the first, the last", d.x.over(0, many - 1), 2);
        }
    }

    /** How many of the last letters of the first are the first letters of the second, at most (both whole, if they are the same). */
    private static void overFromNoneToWhole() {
        Object[][] pairs = {{"a", "b", 0}, {"a", "a", 1}, {"abca", "bcab", 3}, {"abca", "abca", 4}, {"abca", "abcb", 1}, {"aaaa", "aaaa", 4},
            {"aaab", "aaaa", 0}, {"baaa", "aaaa", 3}, {"baaa", "aaac", 3}, {"ab", "abc", 2}, {"abc", "ab", 0}, {"cab", "ab", 2},
            {"abab", "abac", 2}, {"abab", "abab", 4}, {"a", "abca", 1}, {"abca", "a", 1}, {"abcb", "a", 0},
            {"aaaa", "a", 1}, {"a", "aaaa", 1}, {"aab", "aabb", 3}, {"abcc", "cabb", 1}, {"abcc", "ccbb", 2}};
        for (Object[] pair : pairs) {
            Due d = of("w;p/" + pair[0] + ";p/" + pair[1]);
            d.due("over", d.x.over(0, 1), (Integer) pair[2]);
        }
    }

    /** OVER of two WORDS as they are: by no other form. */
    private static void overAsTheyAre() {
        Due d = of("w;b/abc;t/cba;b/cba");
        d.due("backwards does not count", d.x.over(0, 0), 3);
        d.due("nor of the second", d.x.over(0, 2), 1);
        d.due("nor turned", d.x.over(1, 0), 1);
        d.due("the same letters of two kinds", d.x.over(1, 2), 3);
        d.x.spell(0, 2, 1);
        d.due("as it is now", d.x.over(0, 2), 0);
    }

    /** k -1, 0 .. 15; OUTSIDE; STATE. */
    private static void allRefused() {
        Due none = new Due("promise 9, no words");
        Due d = of("w;p/a");
        for (int bad : new int[] {MIN, -2, 16, MAX}) {
            none.due("all " + bad, none.x.all(bad), -2);
            d.due("all " + bad, d.x.all(bad), -2);
        }
        for (int k = -1; k < 16; k++) {
            none.due("all " + k, none.x.all(k), -3);
            d.due("all " + k, d.x.all(k), k == -1 ? 1 : k == 0 ? 0 : -9);
        }
    }

    private static void allIs(String text, String row) {
        Due d = of(text);
        d.due("how many", d.x.all(-1), row.length());
        for (int k = 0; k < 16; k++) d.due("place " + k, d.x.all(k), k < row.length() ? row.charAt(k) - 'a' : -9);
    }

    private static void allFromOneToSixteen() {
        allIs("w;p/a", "a");
        allIs("w;p/c;b/c;t/c;p/c", "c");
        allIs("w;t/cccc", "cccc");
        allIs("w;p/abca;p/bcab", "abcab");
        allIs("w;p/aaaa;p/bbbb;p/cccc;p/acbc", "aaaacbccccbbbb");
        allIs("w;p/aaaa;p/bbbb;p/cccc;p/abca", "aaaabcabbbbcccc");
        allIs("w;p/abbc;p/abcb;p/accc;p/abbb", "abbbabbcabcbaccc");
    }

    /** Of several rows the first. */
    private static void firstOfSeveral() {
        allIs("w;b/cba", "abc");
        allIs("w;b/abc", "abc");
        allIs("w;t/cab", "abc");
        allIs("w;t/bca", "bca");
        allIs("w;t/acb", "acb");
        allIs("w;p/c;p/b;p/a", "abc");
        allIs("w;b/ba;b/cb", "abc");
        allIs("w;p/bb;p/aa", "aabb");
        allIs("w;t/ba;p/ca", "cab");
        allIs("w;p/ca;b/ab", "cab");
    }

    /** n (0 .. 30); LOST: OUTSIDE; STATE. */
    private static void countsRefused() {
        Due none = new Due("promises 10, 11, no words");
        Due d = of("w;p/a");
        for (int bad : new int[] {MIN, -1, 31, MAX}) {
            none.due("have " + bad, none.x.have(bad), LOST);
            none.due("free " + bad, none.x.free(bad), LOST);
            d.due("have " + bad, d.x.have(bad), LOST);
            d.due("free " + bad, d.x.free(bad), LOST);
        }
        for (int n : new int[] {0, 1, 30}) {
            none.due("have " + n, none.x.have(n), LOST);
            none.due("free " + n, none.x.free(n), LOST);
        }
    }

    /** Rows one letter shorter than the shortest with all have not all. */
    private static void haveAroundAll() {
        String[] texts = {"w;p/a", "w;b/ab", "w;b/aba", "w;t/abc", "w;p/ab;p/ba", "w;p/abbc;p/abcb;p/accc;p/abbb", "w;p/a;p/b;p/c"};
        int[] all = {1, 2, 3, 3, 3, 16, 3};
        long[] have = {1, 2, 1, 2, 2, 24, 6};
        for (int k = 0; k < texts.length; k++) {
            Due d = of(texts[k]);
            d.due("all", d.x.all(-1), all[k]);
            d.due("have of one less", d.x.have(all[k] - 1), 0);
            d.due("have of as many", d.x.have(all[k]), have[k]);
        }
    }

    private static void countsOfNoLetters() {
        for (String text : new String[] {"w;p/a", "w;t/abca;b/c", "w;p/a;p/b;p/c"}) {
            Due d = of(text);
            d.due("have 0", d.x.have(0), 0);
            d.due("free 0", d.x.free(0), 1);
        }
        Due d = of("w;p/a;p/b;p/c");
        d.due("have 1", d.x.have(1), 0);
        d.due("free 1", d.x.free(1), 0);
        Due e = of("w;p/a;t/a");
        e.due("have 1", e.x.have(1), 1);
        e.due("free 1", e.x.free(1), 2);
    }

    private static void countsOfThirtyLetters() {
        Due one = of("w;p/a");
        one.due("free 30 of a", one.x.free(30), 1L << 30);
        one.due("have 30 of a", one.x.have(30), ROWS_OF_30 - (1L << 30));
        Due four = of("w;p/aaaa;b/aaaa;t/aaaa;p/aaaa");
        long[] free = new long[31];
        free[0] = 1;
        // A row without aaaa is up to three a behind a shorter one that ends in another letter.
        for (int n = 1; n <= 30; n++) {
            for (int as = 0; as < 4 && as < n; as++) free[n] += 2 * free[n - 1 - as];
            if (n < 4) free[n]++;
        }
        for (int n = 0; n <= 30; n++) four.due("free " + n + " of aaaa", four.x.free(n), free[n]);
        four.due("have 30 of aaaa", four.x.have(30), ROWS_OF_30 - free[30]);
        Due shut = of("w;p/c;p/ab;p/aaaa;p/bbbb");
        shut.due("free 6", shut.x.free(6), 1);
        shut.due("free 7", shut.x.free(7), 0);
        shut.due("free 30", shut.x.free(30), 0);
    }

    private static void countsAskedInAnyOrder() {
        Due d = of("w;p/a");
        long[] power = {1, 3, 9, 27, 81, 243};
        for (int n : new int[] {5, 0, 3, 5, 1, 4, 2}) {
            d.due("have " + n, d.x.have(n), power[n] - (1L << n));
            d.due("free " + n, d.x.free(n), 1L << n);
        }
        d.x.spell(0, 0, 0);
        d.due("spelt as it was", d.x.have(2), 5);
        d.words("w;p/a;p/b");
        d.due("words anew", d.x.have(2), 2);
        d.due("refused between", d.x.have(31), LOST);
        d.due("as ahead", d.x.have(2), 2);
    }

    private static void longestFromNoneToNoEnd() {
        String[] texts = {"w;p/a;p/b;p/c", "w;p/a;p/b;p/c;p/a", "w;p/a;p/b;p/cc", "w;p/a;p/b;p/cccc", "w;p/a;p/bb;p/cc;t/bc", "w;p/a;p/bb;p/cc;p/bc",
            "w;p/aaaa;p/bbbb;p/c;p/ab", "w;b/aaaa;t/bbbb;p/c;b/ab", "w;p/a;p/b", "w;p/a", "w;t/a;t/b;t/ab;b/bb", "w;p/aa;p/bb;p/cc;p/abc", "w;p/abca;b/c;p/aa",
            "w;p/a;p/bb;p/cc;p/bcb"};
        int[] due = {0, 0, 1, 3, 1, 2, 6, 3, -9, -9, -9, -9, -9, 3};
        for (int k = 0; k < texts.length; k++) {
            Due d = of(texts[k]);
            d.due("longest", d.x.longest(), due[k]);
            if (due[k] < 0) {
                d.due("there are rows of 30", d.x.free(30) > 0 ? 1 : 0, 1);
            } else {
                d.due("there is such a row", d.x.free(due[k]) > 0 ? 1 : 0, 1);
                d.due("and none longer", d.x.free(due[k] + 1), 0);
            }
        }
        Due d = of("w;p/a;p/b;p/b");
        d.due("no end", d.x.longest(), -9);
        d.x.spell(2, 0, 2);
        d.due("an end", d.x.longest(), 0);
        d.x.spell(0, 0, 1);
        d.due("no end again", d.x.longest(), -9);
    }

    private static void spareFromNoneToAll() {
        String[] texts = {"w;p/a", "w;t/abca", "w;p/a;p/b", "w;p/a;p/a", "w;p/ab;p/ab;p/ab;p/ab", "w;p/a;p/aa;p/aaa;p/aaaa", "w;p/aaaa;p/aaa;p/aa;p/a",
            "w;p/a;p/b;p/c;p/abca", "w;p/abca;p/c;p/b;p/bca", "w;p/aa;p/aba"};
        int[] due = {0, 0, 0, 3, 15, 7, 14, 7, 14, 0};
        for (int k = 0; k < texts.length; k++) {
            Due d = of(texts[k]);
            d.due("spare", d.x.spare(), due[k]);
        }
    }

    /** WORDS such that in each FORM of one other WORD they STAND: all forms of one, not one each of two. */
    private static void spareInEachForm() {
        String[] texts = {"w;p/ab;b/ab", "w;b/ab;p/ab", "w;b/ab;p/ba", "w;b/abc;t/abc", "w;t/ab;b/ab", "w;p/b;t/abc", "w;p/ab;t/abb", "w;b/ab;t/abb",
            "w;p/ab;t/cab", "w;p/ab;t/abca", "w;p/abc;p/b;b/cba", "w;p/ca;t/abc", "w;t/ca;t/abc", "w;p/bc;t/abcb"};
        int[] due = {2, 1, 1, 0, 3, 1, 0, 1, 1, 0, 6, 0, 0, 1};
        for (int k = 0; k < texts.length; k++) {
            Due d = of(texts[k]);
            d.due("spare", d.x.spare(), due[k]);
        }
        Due d = of("w;p/a;p/b");
        d.x.spell(0, 0, 1);
        d.due("by words as they are now", d.x.spare(), 3);
    }

    private static void stateAheadOfWords() {
        Due d = new Due("promises 9 to 13, a text that is not taken");
        d.words("w;p/a;");
        d.due("all", d.x.all(-1), -3);
        d.due("longest", d.x.longest(), -3);
        d.due("spare", d.x.spare(), -3);
        d.due("have", d.x.have(0), LOST);
        d.due("free", d.x.free(0), LOST);
        d.due("these name no fault", d.x.fault(), 0);
    }
}
