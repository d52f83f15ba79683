/** Promises 8 to 13: over, all, have, free, longest, spare. */
public final class AllInOneTest {
    private static final int MIN = Integer.MIN_VALUE, MAX = Integer.MAX_VALUE;
    private static final long LOST = OneLongRow.LOST;

    public static void main(String[] args) {
        overs();
        alls();
        allsByAllRows();
        counts();
        longests();
        spares();
        Due.end();
    }

    private static void overs() {
        Due d = new Due("promise 8");
        d.due("no words", d.x.over(0, 0), -1);
        d.words("w;p/abab;b/ab;t/babc;p/c");
        int[][] due = {{4, 2, 3, 0}, {2, 2, 1, 0}, {0, 0, 4, 1}, {0, 0, 0, 1}};
        for (int a = 0; a < 4; a++) for (int b = 0; b < 4; b++) d.due("over " + a + " " + b, d.x.over(a, b), due[a][b]);
        for (int bad : new int[] {-1, 4, MIN, MAX}) {
            d.due("over first " + bad, d.x.over(bad, 0), -1);
            d.due("over second " + bad, d.x.over(0, bad), -1);
        }
    }

    private static void allIs(String text, String row) {
        Due d = new Due("promise 9, " + text);
        d.words(text);
        d.due("how many", d.x.all(-1), row.length());
        for (int k = 0; k < 16; k++) d.due("place " + k, d.x.all(k), k < row.length() ? row.charAt(k) - 'a' : -9);
        for (int bad : new int[] {-2, 16, MIN, MAX}) d.due("all " + bad, d.x.all(bad), -2);
    }

    private static void alls() {
        Due d = new Due("promise 9");
        d.due("outside ahead of state", d.x.all(16), -2);
        d.due("no words", d.x.all(-1), -3);
        allIs("w;p/c", "c");
        allIs("w;b/ca", "ac");
        allIs("w;t/ba", "ab");
        allIs("w;t/cba", "bac");
        allIs("w;p/ab;p/bc", "abc");
        allIs("w;p/bc;p/ab", "abc");
        allIs("w;p/b;p/a", "ab");
        allIs("w;p/abc;p/b", "abc");
        allIs("w;p/abc;p/abc", "abc");
        allIs("w;p/abcb;p/accc;p/abbb;p/abbc", "abbbabbcabcbaccc");
        allIs("w;p/aaaa;p/bbbb;p/cccc;p/abca", "aaaabcabbbbcccc");
        allIs("w;p/cccc;p/bbbb;p/aaaa;b/acbb", "aaaacbbbbcccc");
        allIs("w;p/aab;p/bcc;p/cca", "aabcca");
        allIs("w;p/cab;p/abc;p/bca", "abcab");
    }

    /** Each row of up to 8 letters is looked at by itself. */
    private static void allsByAllRows() {
        String[] texts = {"w;b/abc;t/ccb;p/ba", "w;t/aab;t/bba;t/cca", "w;b/aac;b/cbb", "w;p/acb;b/bb;t/ca;p/cc", "w;t/abca;b/cb", "w;p/b"};
        for (String text : texts) {
            Due d = new Due("promises 9 to 12, " + text);
            d.words(text);
            String first = null;
            int longest = 0;
            for (int n = 0; n <= 8; n++) {
                long have = 0, free = 0;
                for (long number = 0; number < Math.round(Math.pow(3, n)); number++) {
                    String row = row(number, n);
                    int stand = stand(text, row);
                    if (stand == text.split(";").length - 1) {
                        have++;
                        if (first == null) first = row;
                    }
                    if (stand == 0) {
                        free++;
                        longest = n;
                    }
                }
                d.due("have " + n, d.x.have(n), have);
                d.due("free " + n, d.x.free(n), free);
            }
            d.due("all", d.x.all(-1), first == null ? -1 : first.length());
            for (int k = 0; first != null && k < first.length(); k++) d.due("all " + k, d.x.all(k), first.charAt(k) - 'a');
            d.due("longest", d.x.longest(), longest == 8 ? -9 : longest);
        }
    }

    private static String row(long number, int n) {
        StringBuilder row = new StringBuilder();
        for (int k = 0; k < n; k++, number /= 3) row.insert(0, (char) ('a' + number % 3));
        return row.toString();
    }

    private static int stand(String text, String row) {
        int many = 0;
        for (String part : text.substring(2).split(";")) {
            String word = part.substring(2);
            String other = part.charAt(0) == 'p' ? word : part.charAt(0) == 'b' ? new StringBuilder(word).reverse().toString()
                : word.substring(1) + word.charAt(0);
            if (row.contains(word) || row.contains(other)) many++;
        }
        return many;
    }

    private static void counts() {
        Due d = new Due("promises 10, 11");
        d.due("have without words", d.x.have(1), LOST);
        d.due("free without words", d.x.free(1), LOST);
        d.words("w;p/a");
        long power = 1, without = 1;
        for (int n = 0; n <= 30; n++, power *= 3, without *= 2) {
            d.due("have " + n, d.x.have(n), power - without);
            d.due("free " + n, d.x.free(n), without);
        }
        d.due("have 3 behind 30", d.x.have(3), 19);
        for (int bad : new int[] {-1, 31, MIN, MAX}) {
            d.due("have " + bad, d.x.have(bad), LOST);
            d.due("free " + bad, d.x.free(bad), LOST);
        }
        d.words("w;p/a;p/b;p/c");
        d.due("have 30 of three", d.x.have(30), 205891132094649L - 3 * 1073741824L + 3);
        d.due("free 30 of three", d.x.free(30), 0);
        d.words("w;p/a;p/a");
        d.due("have 2 of two alike", d.x.have(2), 5);
        d.x.spell(1, 0, 1);
        d.due("have 2 of two unlike", d.x.have(2), 2);
        d.due("free 2 of two unlike", d.x.free(2), 1);
    }

    private static void longestIs(String text, int due) {
        Due d = new Due("promise 12");
        d.words(text);
        d.due(text, d.x.longest(), due);
    }

    private static void longests() {
        Due d = new Due("promise 12");
        d.due("no words", d.x.longest(), -3);
        longestIs("w;p/a", -9);
        longestIs("w;p/a;p/b;p/c", 0);
        longestIs("w;p/aa;p/b;p/c", 1);
        longestIs("w;p/aaaa;p/b;p/c", 3);
        longestIs("w;p/aaaa;p/bbbb;p/cccc", -9);
        longestIs("w;p/aa;b/ab;p/bb;p/c", 1);
        longestIs("w;p/aaa;p/bbb;t/ab;p/c", 2);
        longestIs("w;p/aaaa;p/bbbb;p/ab;p/c", 6);
        longestIs("w;p/aaaa;p/bbbb;b/abab;p/c", -9);
        longestIs("w;p/ca;p/cb;p/cc", -9);
    }

    private static void spareIs(String text, int due) {
        Due d = new Due("promise 13");
        d.words(text);
        d.due(text, d.x.spare(), due);
    }

    private static void spares() {
        Due d = new Due("promise 13");
        d.due("no words", d.x.spare(), -3);
        spareIs("w;p/a", 0);
        spareIs("w;p/a;p/ba", 1);
        spareIs("w;p/ba;p/a", 2);
        spareIs("w;p/ab;p/ab", 3);
        spareIs("w;p/ab;b/ab", 2);
        spareIs("w;b/ab;b/ba", 3);
        spareIs("w;b/ab;t/ab", 3);
        spareIs("w;p/ab;b/cab", 0);
        spareIs("w;b/ab;b/cab", 1);
        spareIs("w;p/ab;t/abc", 0);
        spareIs("w;t/ab;t/abb", 1);
        spareIs("w;p/bc;t/abc", 1);
        spareIs("w;p/a;p/ab;p/abc;p/abca", 7);
        // a is in one of b's forms by itself and in the other form of another: one word must do for all forms
        spareIs("w;p/ab;b/abc;b/bac", 0);
    }
}
