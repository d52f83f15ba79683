/** Promises 24 to 29: tell, spelt, as, trace, fault, many. */
public final class PartsTest {
    private static final int MIN = Integer.MIN_VALUE, MAX = Integer.MAX_VALUE;

    public static void main(String[] args) {
        telling();
        wrappingTrace();
        taken();
        faultsOfCalls();
        howMany();
        Due.end();
    }

    private static int traceOf(int... bodies) {
        int trace = 0;
        for (int body : bodies) trace = trace * 31 + body;
        return trace;
    }

    private static void telling() {
        Due d = new Due("promises 24, 25, 27");
        d.due("tell without words", d.x.tell(0), -1);
        d.due("spelt without words", d.x.spelt(0), -1);
        d.words("w;p/cab;b/bc;t/abca");
        d.due("plain", d.x.tell(0), 3);
        d.due("trace of plain", d.x.trace(), traceOf(1));
        d.due("both", d.x.tell(1), 102);
        d.due("trace of both", d.x.trace(), traceOf(1, 2, 1));
        d.due("turned", d.x.tell(2), 108);
        d.due("trace of turned", d.x.trace(), traceOf(1, 2, 1, 3, 2, 1, 1));
        d.words("w;p/cab;b/bc;t/abca");
        Due e = new Due("promise 25");
        e.words("w;p/cab;b/bc;t/abca");
        e.due("plain", e.x.spelt(0), 2);
        e.due("both", e.x.spelt(1), 1);
        e.due("turned", e.x.spelt(2), 30);
        e.due("trace", e.x.trace(), traceOf(4, 4, 5));
        for (int bad : new int[] {-1, 3, MIN, MAX}) {
            e.due("tell " + bad, e.x.tell(bad), -1);
            e.due("spelt " + bad, e.x.spelt(bad), -1);
        }
        e.due("trace as it was", e.x.trace(), traceOf(4, 4, 5));
        e.x.spell(0, 0, 0);
        e.due("spelt anew", e.x.spelt(0), 0);
    }

    private static void wrappingTrace() {
        Due d = new Due("promise 27");
        d.words("w;t/ab");
        int trace = 0;
        for (int k = 0; k < 20; k++) {
            d.x.spelt(0);
            trace = trace * 31 + 5;
            d.due("trace " + k, d.x.trace(), trace);
        }
        d.due("trace by itself changes nothing", d.x.trace(), trace);
    }

    private static void taken() {
        Due d = new Due("promise 26");
        d.due("no words", d.x.as(0, 0), -1);
        d.words("w;p/a;b/a;t/a");
        int[][] due = {{-2, 1, -12, -12, -2}, {-2, 1, 1, -12, -2}, {-2, 1, 1, 1, -2}};
        for (int w = 0; w < 3; w++) {
            for (int kind = -1; kind < 4; kind++) {
                d.due("as " + w + " " + kind, d.x.as(w, kind), due[w][kind + 1]);
                d.due("fault", d.x.fault(), due[w][kind + 1] == -12 ? 2 : 0);
            }
            d.due("kind is as it was", d.x.ofWord(w, 0), w);
        }
        for (int bad : new int[] {-1, 3, MIN, MAX}) d.due("as " + bad, d.x.as(bad, 9), -1);
        d.due("as kind", d.x.as(0, MAX), -2);
        d.due("as kind", d.x.as(0, MIN), -2);
    }

    /** Calls that name no fault leave it as it is; those that name one and go well, or are refused, make it 0. */
    private static void faultsOfCalls() {
        Due d = new Due("promise 28");
        OneLongRow x = d.x;
        d.due("ahead of any", x.fault(), 0);
        d.words("w;p/a");
        x.put(3, -1, 0);
        d.due("index", x.fault(), 3);
        x.ofWord(0, 0); x.spell(0, 0, 1); x.say(0); x.hush(); x.over(0, 0); x.all(0); x.have(1); x.free(1); x.longest(); x.spare();
        x.back(0); x.kinds(0); x.lasts(0); x.odds(1, 0); x.lose(0); x.tell(0); x.spelt(0); x.trace(); x.fault(); x.many(0);
        x.ofWord(9, 0); x.spell(9, 0, 1); x.say(9); x.over(9, 0); x.all(99); x.have(99); x.free(99); x.back(99); x.kinds(9); x.lasts(9);
        x.odds(99, 0); x.lose(9); x.tell(9); x.spelt(9); x.many(9);
        d.due("still", x.fault(), 3);
        for (int call = 0; call < 16; call++) {
            x.put(3, -1, 0);
            d.due("ahead of call " + call, x.fault(), 3);
            well(x, call);
            d.due("behind call " + call, x.fault(), 0);
        }
    }

    private static void well(OneLongRow x, int call) {
        switch (call) {
            case 0: x.words(3, 0, 0, 5); break;
            case 1: x.words(9, 0, 0, 5); break;
            case 2: x.row(3, 0, 0, 0, 0); break;
            case 3: x.row(9, 0, 0, 0, 0); break;
            case 4: x.reading(0, 3, 0, 0, 0, 0); break;
            case 5: x.reading(0, 9, 0, 0, 0, 0); break;
            case 6: x.sheet(0, 0, 1); break;
            case 7: x.sheet(9, 0, 1); break;
            case 8: x.put(0, 0, 1); break;
            case 9: x.put(9, 0, 1); break;
            case 10: x.cell(0, 0, 0); break;
            case 11: x.cell(9, 0, 0); break;
            case 12: x.copy(0, 0, 0, 0, 1); break;
            case 13: x.copy(0, 0, 9, 0, 1); break;
            case 14: x.as(0, 0); break;
            default: x.as(9, 0); break;
        }
    }

    private static void howMany() {
        Due d = new Due("promise 29");
        for (int bad : new int[] {-1, 4, MIN, MAX}) d.due("many " + bad, d.x.many(bad), -2);
        for (int what = 0; what < 4; what++) d.due("many " + what + " without words", d.x.many(what), 0);
        d.words("w;p/ab;b/bc;p/cc");
        for (int letter : new int[] {0, 1, 2}) d.x.say(letter);
        d.reading(0, "ab", 1);
        d.reading(0, "ab", 0);
        d.due("words", d.x.many(0), 3);
        d.due("said", d.x.many(1), 3);
        d.due("stand", d.x.many(2), 3);
        d.due("readings", d.x.many(3), 2);
        d.x.say(2);
        d.due("stand now", d.x.many(2), 7);
        d.x.spell(1, 1, 0);
        d.due("stand by words as they are", d.x.many(2), 7);
        d.x.spell(0, 0, 2);
        d.due("stand by words as they are", d.x.many(2), 6);
        d.words("w;p/b;p/a");
        d.x.say(0);
        d.due("a word of one letter stands", d.x.many(2), 2);
    }
}
