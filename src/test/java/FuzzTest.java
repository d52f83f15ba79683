import java.util.Random;

/** Long runs of calls, ordinary and wrong, on which the program and the model must agree (seeds are fixed). */
public final class FuzzTest {
    private static final int RUNS = 1500, TEXTS = 2500, CALLS = 512;
    private static final int[] EDGES = {Integer.MIN_VALUE, Integer.MIN_VALUE + 9, -102, -2, -1, 0, 1, 2, 3, 4, 5, 8, 9, 10, 13,
        14, 15, 16, 29, 30, 31, 40, 41, 59, 60, 61, Integer.MAX_VALUE - 9, Integer.MAX_VALUE};
    private static int wrong = 0;

    private final Random random;
    private final int run;
    private final OneLongRow x = new OneLongRow();
    private final Model m = new Model();
    private int left = CALLS;

    private FuzzTest(int run) {
        this.run = run;
        this.random = new Random(run);
    }

    public static void main(String[] args) {
        for (int run = 0; run < RUNS && wrong < 10; run++) new FuzzTest(run).go();
        for (int run = 0; run < TEXTS && wrong < 10; run++) new FuzzTest(RUNS + run).allOfText();
        if (wrong != 0) System.exit(1);
    }

    private void same(long got, long want, String call, int... a) {
        left--;
        // What an object answers behind its 512th call is free.
        if (left >= 0 && got != want) {
            wrong++;
            System.out.println("run " + run + ", " + (CALLS - left) + ": " + call + java.util.Arrays.toString(a) + " answered " + got + ", due is " + want);
        }
    }

    private void go() {
        if (random.nextInt(4) != 0) tellWords();
        while (left > 0 && wrong < 10) {
            switch (random.nextInt(14)) {
                case 0: if (random.nextInt(3) == 0) tellWords(); break;
                case 1: tellLetters(); break;
                case 2: case 3: case 4: aboutWords(); break;
                case 5: case 6: aboutAll(); break;
                case 7: case 8: aboutReadings(); break;
                case 9: case 10: aboutSheets(); break;
                default: aboutParts(); break;
            }
        }
    }

    /** All that is told of words together, for words that are long, or that shut out all long rows. */
    private void allOfText() {
        StringBuilder text = new StringBuilder("w");
        int many = 2 + random.nextInt(3);
        boolean shuts = random.nextInt(3) == 0;
        for (int w = 0; w < many; w++) {
            text.append(';').append("pbt".charAt(random.nextInt(3))).append('/');
            if (shuts && w == 0) {
                text.append('c');
                continue;
            }
            int length = shuts ? 1 + random.nextInt(4) : 3 + random.nextInt(2);
            char letter = (char) ('a' + random.nextInt(3));
            for (int k = 0; k < length; k++) {
                if (random.nextInt(3) == 0) letter = (char) ('a' + random.nextInt(shuts ? 2 : 3));
                text.append(shuts && letter == 'c' ? 'a' : letter);
            }
        }
        sheet(0, 0, text.length());
        for (int c = 0; c < text.length(); c++) put(0, c, text.charAt(c));
        words(0, 0, 0, text.length());
        for (int k = -1; k < 16; k++) same(x.all(k), m.all(k), "all of " + text, k);
        same(x.longest(), m.longest(), "longest of " + text);
        same(x.spare(), m.spare(), "spare of " + text);
        int n = random.nextInt(31);
        same(x.have(n), m.have(n), "have of " + text, n);
        same(x.free(n), m.free(n), "free of " + text, n);
    }

    /** Mostly a number below bound, at times just beyond it, at times any edge. */
    private int some(int bound) {
        int way = random.nextInt(40);
        if (way == 0) return EDGES[random.nextInt(EDGES.length)];
        if (way == 1) return random.nextBoolean() ? -1 : bound;
        return random.nextInt(Math.max(1, bound));
    }

    private String text() {
        StringBuilder text = new StringBuilder("w");
        int many = 1 + random.nextInt(random.nextInt(12) == 0 ? 5 : 4);
        int most = 1 + random.nextInt(4);
        for (int w = 0; w < many; w++) {
            text.append(';').append("pbt".charAt(random.nextInt(3))).append('/');
            int length = 1 + random.nextInt(random.nextInt(30) == 0 ? 5 : most);
            for (int k = 0; k < length; k++) text.append((char) ('a' + random.nextInt(3)));
        }
        if (random.nextInt(4) == 0) text.setCharAt(random.nextInt(text.length()), "wpbt;/abcdx".charAt(random.nextInt(11)));
        if (random.nextInt(6) == 0) text.setLength(random.nextInt(text.length() + 1));
        return text.toString();
    }

    private void tellWords() {
        String text = text();
        int k = random.nextInt(4);
        int lane = random.nextInt(3);
        int ahead = random.nextInt(3);
        int length = Math.min(60, text.length() + ahead + random.nextInt(3));
        sheet(k, lane, length);
        int lift = random.nextInt(10) == 0 ? 256 : 0;
        for (int c = 0; c < text.length(); c++) put(k, ahead + c, text.charAt(c) + lift);
        int n = random.nextInt(20) == 0 ? some(30) : text.length();
        words(k, random.nextInt(20) == 0 ? some(3) : lane, random.nextInt(20) == 0 ? some(60) : ahead, n);
    }

    private void tellLetters() {
        int k = random.nextInt(4);
        int lane = random.nextInt(3);
        int length = random.nextInt(random.nextInt(4) == 0 ? 45 : 11);
        sheet(k, lane, length);
        for (int c = 0; c < length; c++) put(k, c, random.nextInt(150) == 0 ? some(4) : random.nextInt(3));
        if (random.nextInt(8) == 0) say(some(3));
        int ahead = random.nextInt(3) == 0 ? some(length + 1) : 0;
        int askedLane = random.nextInt(12) == 0 ? some(3) : lane;
        for (int times = random.nextInt(6); times >= 0; times--) {
            int n = random.nextInt(6) == 0 ? some(41) : Math.max(0, Math.min(40, length - Math.max(0, ahead)));
            row(k, askedLane, ahead, n, random.nextBoolean() ? some(4) : 10 + some(4));
        }
        for (int times = random.nextInt(3); times > 0; times--) {
            int n = random.nextInt(6) == 0 ? some(9) : Math.max(0, Math.min(8, length - Math.max(0, ahead)));
            int w = some(4);
            // What is so leaves more to tell than what is made up.
            int set = random.nextInt(8) == 0 ? -1 : row(k, askedLane, ahead, n, 0);
            reading(w, k, askedLane, ahead, n, set >= 0 && w >= 0 && w < 4 ? set >> w & 1 : some(2));
        }
    }

    private void aboutWords() {
        int a = some(4), b = some(4), c = some(3);
        switch (random.nextInt(7)) {
            case 0: case 1: int what = random.nextBoolean() ? some(4) : 10 + some(4);
                same(x.ofWord(a, what), m.ofWord(a, what), "ofWord", a, what); break;
            case 2: same(x.spell(a, b, c), m.spell(a, b, c), "spell", a, b, c); break;
            case 3: case 4: case 5: for (int times = random.nextInt(16); times >= 0; times--) say(some(3)); break;
            default: if (random.nextInt(6) == 0) same(x.hush(), m.hush(), "hush"); break;
        }
    }

    private void aboutAll() {
        int a = some(4), b = some(4), n = some(31), k = some(17) - 1;
        switch (random.nextInt(8)) {
            case 0: same(x.over(a, b), m.over(a, b), "over", a, b); break;
            case 1: same(x.all(-1), m.all(-1), "all", -1); break;
            case 2: same(x.all(k), m.all(k), "all", k); break;
            case 3: same(x.longest(), m.longest(), "longest"); break;
            case 4: case 5: same(x.spare(), m.spare(), "spare"); break;
            case 6: if (random.nextInt(3) == 0) same(x.have(n), m.have(n), "have", n); break;
            default: if (random.nextInt(3) == 0) same(x.free(n), m.free(n), "free", n); break;
        }
    }

    private void aboutReadings() {
        int w = some(4), n = some(31), which = some(2);
        switch (random.nextInt(6)) {
            case 0: int back = some(9); same(x.back(back), m.back(back), "back", back); break;
            case 1: case 2: same(x.kinds(w), m.kinds(w), "kinds", w); break;
            case 3: case 4: same(x.lasts(w), m.lasts(w), "lasts", w); break;
            default: if (random.nextInt(4) == 0) same(x.odds(n, which), m.odds(n, which), "odds", n, which); break;
        }
    }

    private void aboutSheets() {
        int k = some(4), i = some(12), other = some(4), j = some(12), n = some(6), lane = some(3);
        switch (random.nextInt(8)) {
            case 0: sheet(k, lane, random.nextInt(4) == 0 ? some(61) : some(20)); break;
            case 1: if (random.nextInt(2) == 0) same(x.lose(k), m.lose(k), "lose", k); break;
            case 2: case 3: put(k, i, random.nextBoolean() ? random.nextInt() : EDGES[random.nextInt(EDGES.length)]); break;
            case 4: case 5: same(x.cell(k, i, lane), m.cell(k, i, lane), "cell", k, i, lane); break;
            default: same(x.copy(k, i, other, j, n), m.copy(k, i, other, j, n), "copy", k, i, other, j, n); break;
        }
        if (random.nextBoolean()) same(x.fault(), m.fault(), "fault");
    }

    private void aboutParts() {
        int w = some(4), kind = some(3), what = some(4);
        switch (random.nextInt(8)) {
            case 0: same(x.tell(w), m.tell(w), "tell", w); break;
            case 1: same(x.spelt(w), m.spelt(w), "spelt", w); break;
            case 2: same(x.as(w, kind), m.as(w, kind), "as", w, kind); break;
            case 3: same(x.trace(), m.trace(), "trace"); break;
            case 4: case 5: same(x.fault(), m.fault(), "fault"); break;
            default: same(x.many(what), m.many(what), "many", what); break;
        }
    }

    private void sheet(int k, int lane, int n) {
        same(x.sheet(k, lane, n), m.sheet(k, lane, n), "sheet", k, lane, n);
    }

    private void put(int k, int i, int v) {
        same(x.put(k, i, v), m.put(k, i, v), "put", k, i, v);
    }

    private void words(int k, int lane, int i, int n) {
        same(x.words(k, lane, i, n), m.words(k, lane, i, n), "words", k, lane, i, n);
    }

    private void say(int letter) {
        same(x.say(letter), m.say(letter), "say", letter);
    }

    private int row(int k, int lane, int i, int n, int what) {
        int due = m.row(k, lane, i, n, what);
        same(x.row(k, lane, i, n, what), due, "row", k, lane, i, n, what);
        return due;
    }

    private void reading(int w, int k, int lane, int i, int n, int stands) {
        same(x.reading(w, k, lane, i, n, stands), m.reading(w, k, lane, i, n, stands), "reading", w, k, lane, i, n, stands);
    }
}
