import java.math.BigInteger;

/** The edges of promises 24 to 29: tell, spelt, as, trace, fault, many; and the last call of an object. */
public final class PartsBoundsTest {
    private static final int MIN = Integer.MIN_VALUE, MAX = Integer.MAX_VALUE;

    public static void main(String[] args) {
        tellsOfEachLength();
        speltOfEachLetter();
        wordsThatAreNot();
        traceAtFirst();
        traceOfBodies();
        traceWraps();
        traceIsLeftAlone();
        asOfEachKind();
        refusalsOfAsInOrder();
        faultOfTheLatestCall();
        faultsOfEachKind();
        manyRefused();
        manyFromNoneToAll();
        theLastCall();
        Due.end();
    }

    private static Due of(String text) {
        Due d = new Due(text);
        d.words(text);
        return d;
    }

    /** PLAIN: how many letters it has; BOTH: and 100; TURNED: what BOTH's gives, and what PLAIN's gives. */
    private static void tellsOfEachLength() {
        for (int letters = 1; letters <= 4; letters++) {
            String word = "c".repeat(letters);
            Due d = of("w;p/" + word + ";b/" + word + ";t/" + word);
            d.due("plain", d.x.tell(0), letters);
            d.due("both", d.x.tell(1), 100 + letters);
            d.due("turned", d.x.tell(2), 100 + 2 * letters);
        }
    }

    private static void speltOfEachLetter() {
        for (int letter = 0; letter < 3; letter++) {
            char c = (char) ('a' + letter);
            Due d = of("w;p/" + c + "bca;b/" + c + ";t/" + c + "a");
            d.due("plain", d.x.spelt(0), letter);
            d.due("both", d.x.spelt(1), letter);
            d.due("turned", d.x.spelt(2), 30);
        }
        Due d = of("w;p/ab;b/ab");
        d.x.spell(0, 0, 2);
        d.x.spell(1, 1, 2);
        d.due("told anew", d.x.spelt(0), 2);
        d.due("the first letter, not the last", d.x.spelt(1), 0);
    }

    private static void wordsThatAreNot() {
        for (int many = 1; many <= 4; many++) {
            Due d = of("w" + ";b/ab".repeat(many));
            for (int bad : new int[] {MIN, -1, many, MAX}) {
                d.due("tell " + bad, d.x.tell(bad), -1);
                d.due("spelt " + bad, d.x.spelt(bad), -1);
                d.due("as " + bad, d.x.as(bad, 0), -1);
            }
            d.due("they leave no trace", d.x.trace(), 0);
            d.due("tell of the last", d.x.tell(many - 1), 102);
            d.due("spelt of the last", d.x.spelt(many - 1), 0);
            d.due("as of the last", d.x.as(many - 1, 1), 1);
        }
    }

    private static void traceAtFirst() {
        Due d = new Due("promise 27, at first");
        d.due("trace", d.x.trace(), 0);
        d.x.tell(0);
        d.x.spelt(0);
        d.due("no words, no trace", d.x.trace(), 0);
    }

    /** 31 times it and the number, as each body begins. */
    private static void traceOfBodies() {
        String[] words = {"p/a", "b/a", "t/a"};
        int[] told = {1, 31 * 2 + 1, ((3 * 31 + 2) * 31 + 1) * 31 + 1};
        int[] spelt = {4, 4, 5};
        for (int kind = 0; kind < 3; kind++) {
            Due d = of("w;" + words[kind]);
            d.x.tell(0);
            d.due("trace of tell", d.x.trace(), told[kind]);
            Due e = of("w;" + words[kind]);
            e.x.spelt(0);
            e.due("trace of spelt", e.x.trace(), spelt[kind]);
            e.x.tell(0);
            int power = kind == 0 ? 31 : kind == 1 ? 31 * 31 : 31 * 31 * 31 * 31;
            e.due("trace of both", e.x.trace(), spelt[kind] * power + told[kind]);
        }
    }

    /** An int that wraps. */
    private static void traceWraps() {
        Due d = of("w;t/ab;p/a;b/c");
        BigInteger whole = BigInteger.ZERO;
        int[][] bodies = {{3, 2, 1, 1}, {1}, {2, 1}};
        int below = 0;
        for (int k = 0; k < 60; k++) {
            d.x.tell(k % 3);
            for (int body : bodies[k % 3]) whole = whole.multiply(BigInteger.valueOf(31)).add(BigInteger.valueOf(body));
            d.due("trace behind " + (k + 1) + " tellings", d.x.trace(), whole.intValue());
            if (whole.intValue() < 0) below++;
        }
        d.due("it came below 0", below > 0 ? 1 : 0, 1);
    }

    private static void traceIsLeftAlone() {
        Due d = of("w;t/ab");
        d.x.tell(0);
        int trace = d.x.trace();
        d.due("a text that is taken", d.words("w;p/a;b/a"), 2);
        d.due("trace", d.x.trace(), trace);
        d.due("a text that is not", d.words("w;p"), -103);
        d.x.as(1, 1);
        d.x.as(0, 1);
        d.x.kinds(0);
        d.x.ofWord(0, 0);
        d.x.hush();
        d.due("trace", d.x.trace(), trace);
    }

    /** Each is a PLAIN one, too; a TURNED one is a BOTH one. */
    private static void asOfEachKind() {
        Due d = of("w;p/ab;b/ab;t/ab");
        int[][] due = {{1, -12, -12}, {1, 1, -12}, {1, 1, 1}};
        for (int w = 0; w < 3; w++) {
            for (int kind = 0; kind < 3; kind++) {
                d.due("as " + w + " " + kind, d.x.as(w, kind), due[w][kind]);
                d.due("fault of as " + w + " " + kind, d.x.fault(), due[w][kind] == 1 ? 0 : 2);
            }
            d.due("its kind", d.x.ofWord(w, 0), w);
        }
    }

    /** UNKNOWN; OUTSIDE; CAST. */
    private static void refusalsOfAsInOrder() {
        Due none = new Due("promise 26, no words");
        none.due("no word, no kind", none.x.as(0, 3), -1);
        none.due("no word", none.x.as(0, 0), -1);
        none.due("fault", none.x.fault(), 0);
        Due d = of("w;p/ab");
        int[][] calls = {{1, 3, -1, 0}, {-1, -1, -1, 0}, {1, 1, -1, 0}, {0, 3, -2, 0}, {0, -1, -2, 0}, {0, MIN, -2, 0}, {0, MAX, -2, 0}, {0, 2, -12, 2}, {0, 0, 1, 0}};
        for (int[] c : calls) {
            d.x.as(0, 1);
            d.due("as " + c[0] + " " + c[1], d.x.as(c[0], c[1]), c[2]);
            d.due("fault of as " + c[0] + " " + c[1], d.x.fault(), c[3]);
        }
    }

    /** The FAULT of the latest call that names one: 0: it came to none, or was refused (0 ahead of any). */
    private static void faultOfTheLatestCall() {
        Due d = of("w;p/a");
        d.due("it came to none", d.x.fault(), 0);
        d.x.put(0, 0, 0);
        d.due("null", d.x.fault(), 1);
        d.due("asked again", d.x.fault(), 1);
        d.x.as(0, 2);
        d.due("cast", d.x.fault(), 2);
        d.x.cell(3, 5, 0);
        d.due("index", d.x.fault(), 3);
        d.x.sheet(0, 0, -1);
        d.due("size", d.x.fault(), 4);
        d.x.sheet(0, 0, 61);
        d.due("refused", d.x.fault(), 0);
        d.x.sheet(0, 0, -1);
        d.x.words(3, 0, 0, 4);
        d.due("a text that is not taken is no fault", d.x.fault(), 0);
        d.x.sheet(0, 0, -1);
        d.x.row(3, 0, 0, 1, 0);
        d.due("a cell that is no letter is no fault", d.x.fault(), 0);
        d.x.sheet(0, 0, -1);
        d.x.reading(0, 3, 0, 0, 1, 0);
        d.due("nor for a reading", d.x.fault(), 0);
        Due none = new Due("promise 28, no words");
        none.x.sheet(0, 0, -1);
        none.x.sheet(0, 0, 1);
        none.x.sheet(1, 0, -1);
        none.due("state", none.x.row(0, 0, 0, 1, 0), -3);
        none.due("refused by state", none.x.fault(), 0);
    }

    /** -10 less it, and fault() tells it, of every call that names it. */
    private static void faultsOfEachKind() {
        Due d = of("w;p/a");
        d.x.sheet(0, 0, 2);
        d.x.sheet(1, 1, 2);
        OneLongRow x = d.x;
        int[] answers = {
            x.words(2, 0, 0, 1), x.fault(), x.words(0, 1, 0, 1), x.fault(), x.words(0, 0, 2, 1), x.fault(), x.words(0, 0, 0, -1), x.fault(),
            x.row(2, 0, 0, 1, 0), x.fault(), x.row(0, 1, 0, 1, 0), x.fault(), x.row(0, 0, 2, 1, 0), x.fault(),
            x.reading(0, 2, 0, 0, 1, 0), x.fault(), x.reading(0, 0, 1, 0, 1, 0), x.fault(), x.reading(0, 0, 0, 2, 1, 0), x.fault(),
            x.sheet(2, 0, -1), x.fault(), x.put(2, 0, 0), x.fault(), x.put(0, 2, 0), x.fault(),
            x.copy(2, 0, 0, 0, 1), x.fault(), x.copy(0, 0, 2, 0, 1), x.fault(), x.copy(0, 0, 1, 0, 1), x.fault(), x.copy(0, 2, 0, 0, 1), x.fault(),
            x.as(0, 1), x.fault()};
        int[] due = {1, 2, 3, 4, 1, 2, 3, 1, 2, 3, 4, 1, 3, 1, 1, 2, 3, 2};
        for (int k = 0; k < due.length; k++) {
            d.due("answer " + k, answers[2 * k], -10 - due[k]);
            d.due("fault " + k, answers[2 * k + 1], due[k]);
        }
    }

    private static void manyRefused() {
        Due none = new Due("promise 29, no words");
        Due d = of("w;p/a");
        for (int bad : new int[] {MIN, -1, 4, MAX}) {
            none.due("many " + bad, none.x.many(bad), -2);
            d.due("many " + bad, d.x.many(bad), -2);
        }
        for (int what = 0; what < 4; what++) none.due("many " + what, none.x.many(what), 0);
    }

    private static void manyFromNoneToAll() {
        for (int words = 1; words <= 4; words++) {
            Due d = of("w" + ";p/ab".repeat(words));
            d.due("words", d.x.many(0), words);
            for (int said = 0; said <= 60; said++) {
                d.due("said", d.x.many(1), said);
                d.due("standing", d.x.many(2), said < 2 ? 0 : (1 << words) - 1);
                d.x.say(said % 2);
            }
            d.due("said", d.x.many(1), 60);
            d.letters(2, "a");
            for (int readings = 0; readings <= 8; readings++) {
                d.due("readings", d.x.many(3), readings);
                d.x.reading(words - 1, 2, 2, 0, 1, 0);
            }
            d.due("readings", d.x.many(3), 8);
        }
        Due d = of("w;p/a;p/b;p/c;p/ca");
        int[] due = {1, 3, 7, 15};
        for (int k = 0; k < 4; k++) {
            d.x.say(k % 3);
            d.due("standing behind " + (k + 1), d.x.many(2), due[k]);
        }
    }

    /** An object is used for at most 512 calls: the last of them is answered as the first ones. */
    private static void theLastCall() {
        OneLongRow x = new OneLongRow();
        String text = "w;t/abca";
        int calls = 0;
        x.sheet(0, 0, 8);
        for (int k = 0; k < 8; k++) x.put(0, k, text.charAt(k));
        x.words(0, 0, 0, 8);
        calls += 10;
        int trace = 0;
        Due d = new Due("512 calls");
        for (; calls < 511; calls++) {
            d.due("call " + calls, x.tell(0), 108);
            for (int body : new int[] {3, 2, 1, 1}) trace = 31 * trace + body;
        }
        d.due("the 512th", x.trace(), trace);
    }
}
