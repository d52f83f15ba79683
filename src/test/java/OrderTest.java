import java.util.Arrays;

/**
 * Each call with all its edges together: of the refusals and faults that hold the first told is answered, it changes
 * nothing but fault(), and a call that names no fault leaves that, too. What holds is written out here once more,
 * in the order of the document, for objects in some states.
 */
public final class OrderTest {
    private static final int UNKNOWN = -1, OUTSIDE = -2, STATE = -3, FULL = -4;
    private static final int NULL = -11, CAST = -12, INDEX = -13, SIZE = -14, TAKEN = 0;
    private static final int MIN = Integer.MIN_VALUE, MAX = Integer.MAX_VALUE;
    private static final int EARLIER_FAULT = 3;
    private static int wrong = 0;

    /** An object in a state, made as often as it is asked for, and what is known of it. */
    private enum State {
        NEW(null, new int[] {-1, -1, -1, -1}, new int[] {0, 0, 0, 0}, 0, 0),
        NO_WORDS(null, new int[] {0, 1, 2, -1}, new int[] {6, 4, 45, 0}, 0, 0),
        ONE_WORD("w;p/ab", new int[] {0, 1, 2, -1}, new int[] {6, 0, 45, 0}, 0, 0),
        WORDS("w;t/abc;b/ca", new int[] {0, 2, 2, -1}, new int[] {12, 4, 10, 0}, 5, 3),
        FULL_OF_ALL("w;b/ab;p/ca;t/abca;p/b", new int[] {0, 2, 1, -1}, new int[] {22, 9, 3, 0}, 60, 8);

        final String text;
        final int[] lanes;
        final int[] lengths;
        final int said;
        final int readings;

        State(String text, int[] lanes, int[] lengths, int said, int readings) {
            this.text = text;
            this.lanes = lanes;
            this.lengths = lengths;
            this.said = said;
            this.readings = readings;
        }

        int words() {
            return text == null ? 0 : text.split(";").length - 1;
        }

        int letters(int w) {
            return text.split(";")[w + 1].length() - 2;
        }

        /** Sheet 0 has the text, if there is one; in other sheets all are letters but the cell of place 1. */
        int cell(int k, int i) {
            if (k == 0 && text != null) return text.charAt(i);
            return i == 1 ? 3 : i % 3;
        }

        OneLongRow make() {
            OneLongRow x = new OneLongRow();
            if (text != null) {
                x.sheet(0, 0, text.length());
                for (int i = 0; i < text.length(); i++) x.put(0, i, text.charAt(i));
                x.words(0, 0, 0, text.length());
                x.tell(0);
            }
            for (int k = 0; k < said; k++) x.say(k * k % 3);
            x.sheet(3, 2, 8);
            for (int k = 0; k < readings; k++) x.reading(k % words(), 3, 2, 0, 8 - k, k % 2);
            x.lose(3);
            for (int k = 0; k < 4; k++) {
                if (lanes[k] < 0) continue;
                x.sheet(k, lanes[k], lengths[k]);
                for (int i = 0; i < lengths[k]; i++) x.put(k, i, cell(k, i));
            }
            x.sheet(3, 0, 0);
            x.put(3, 0, 0);
            x.lose(3);
            return x;
        }
    }

    private interface Call {
        long of(OneLongRow x, int[] a);
    }

    /** What a call answers by the document if it is not taken, else TAKEN. */
    private interface Rule {
        int of(State s, int[] a);
    }

    public static void main(String[] args) {
        for (State s : State.values()) {
            wordCalls(s);
            rowCalls(s);
            allCalls(s);
            heardCalls(s);
            sheetCalls(s);
            partCalls(s);
        }
        if (wrong != 0) System.exit(1);
    }

    private static boolean out(int v, int low, int high) {
        return v < low || v > high;
    }

    private static boolean noWord(State s, int w) {
        return out(w, 0, s.words() - 1);
    }

    private static boolean noSheet(int k) {
        return out(k, 0, 3);
    }

    private static boolean noLane(int lane) {
        return out(lane, 0, 2);
    }

    private static int cellsOf(State s, int k, int lane, int i, int n) {
        if (s.lanes[k] >= 0 && s.lanes[k] != lane) return CAST;
        if (s.lanes[k] < 0) return NULL;
        if (n < 0) return SIZE;
        return missing(s, k, i, n) ? INDEX : TAKEN;
    }

    private static boolean missing(State s, int k, int i, int n) {
        return i < 0 || n < 0 || (long) i + n > s.lengths[k];
    }

    private static boolean noLetters(State s, int k, int i, int n) {
        for (int c = 0; c < n; c++) if (out(s.cell(k, i + c), 0, 2)) return true;
        return false;
    }

    /** All edges of an argument with those of the others. */
    private static void each(String name, boolean namesFaults, State s, Call call, Rule rule, int[]... edges) {
        String untouched = null;
        int[] at = new int[edges.length];
        for (boolean more = true; more && wrong < 20; ) {
            int[] a = new int[edges.length];
            for (int k = 0; k < a.length; k++) a[k] = edges[k][at[k]];
            if (untouched == null) untouched = Seen.of(s.make());
            one(name, namesFaults, s, call, rule.of(s, a), a, untouched);
            int k = 0;
            while (k < at.length && ++at[k] == edges[k].length) at[k++] = 0;
            more = k < at.length;
        }
    }

    private static void one(String name, boolean namesFaults, State s, Call call, int rule, int[] a, String untouched) {
        OneLongRow x = s.make();
        long got = call.of(x, a);
        int fault = x.fault();
        boolean isRefused = got == OneLongRow.LOST || got < 0 && got > -9 || got < -10 && got > -15;
        boolean isLong = name.equals("have") || name.equals("free") || name.equals("odds") || name.equals("cell");
        boolean right = rule == TAKEN ? !isRefused : got == (isLong ? OneLongRow.LOST : rule);
        int faultDue = !namesFaults ? EARLIER_FAULT : rule < -10 ? -10 - rule : 0;
        if (!right) tell(s + ", " + name + Arrays.toString(a) + " answered " + got + ", due is " + (rule == TAKEN ? "no refusal" : rule));
        if (fault != faultDue) tell(s + ", fault of " + name + Arrays.toString(a) + " is " + fault + ", due is " + faultDue);
        // A text that is not taken is neither refused nor a fault, and changes nothing either.
        boolean changesNothing = rule != TAKEN || got <= -100;
        if (changesNothing && !Seen.of(x).equals(untouched)) tell(s + ", " + name + Arrays.toString(a) + " is refused and changes something");
    }

    private static void tell(String what) {
        wrong++;
        System.out.println(what);
    }

    private static int[] edges(int... edges) {
        return edges;
    }

    private static int[] wordEdges(State s) {
        return edges(-1, 0, s.words() - 1, s.words(), MAX);
    }

    private static int[] sheetEdges() {
        return edges(MIN, -1, 0, 1, 2, 3, 4);
    }

    private static int[] laneEdges() {
        return edges(-1, 0, 1, 2, 3, MAX);
    }

    /** Places around the ends of the sheets that a state has. */
    private static int[] placeEdges(State s) {
        return edges(MIN, -1, 0, 1, 2, s.lengths[0], s.lengths[0] + 1, s.lengths[1], s.lengths[2] + 1, MAX);
    }

    private static void wordCalls(State s) {
        each("words", true, s, (x, a) -> x.words(a[0], a[1], a[2], a[3]), (t, a) ->
            noSheet(a[0]) ? UNKNOWN : noLane(a[1]) ? OUTSIDE : cellsOf(t, a[0], a[1], a[2], a[3]),
            sheetEdges(), laneEdges(), placeEdges(s), edges(MIN, -1, 0, 1, 6, s.lengths[0], 61, MAX));
        each("ofWord", false, s, (x, a) -> x.ofWord(a[0], a[1]), (t, a) ->
            noWord(t, a[0]) ? UNKNOWN : out(a[1], 0, 3) && out(a[1], 10, 13) ? OUTSIDE : TAKEN,
            wordEdges(s), edges(MIN, -1, 0, 3, 4, 9, 10, 13, 14, MAX));
        each("spell", false, s, (x, a) -> x.spell(a[0], a[1], a[2]), (t, a) ->
            noWord(t, a[0]) || out(a[1], 0, t.letters(a[0]) - 1) ? UNKNOWN : out(a[2], 0, 2) ? OUTSIDE : TAKEN,
            wordEdges(s), edges(MIN, -1, 0, 1, 2, 3, 4, MAX), edges(MIN, -1, 0, 2, 3, MAX));
    }

    private static void rowCalls(State s) {
        each("say", false, s, (x, a) -> x.say(a[0]), (t, a) ->
            out(a[0], 0, 2) ? OUTSIDE : t.words() == 0 ? STATE : t.said == 60 ? FULL : TAKEN,
            edges(MIN, -1, 0, 1, 2, 3, MAX));
        each("hush", false, s, (x, a) -> x.hush(), (t, a) -> t.words() == 0 ? STATE : TAKEN);
        each("row", true, s, (x, a) -> x.row(a[0], a[1], a[2], a[3], a[4]), (t, a) -> {
            if (noSheet(a[0])) return UNKNOWN;
            if (noLane(a[1]) || out(a[3], 0, 40) || out(a[4], 0, 3) && out(a[4], 10, 13)) return OUTSIDE;
            int fault = cellsOf(t, a[0], a[1], a[2], a[3]);
            if (fault != TAKEN) return fault;
            if (t.words() == 0) return STATE;
            return noLetters(t, a[0], a[2], a[3]) ? OUTSIDE : TAKEN;
        }, edges(-1, 0, 1, 2, 3, 4), edges(-1, 0, 1, 2, 3), edges(MIN, -1, 0, 2, s.lengths[0], s.lengths[1] + 1, s.lengths[2], MAX),
            edges(-1, 0, 1, 40, 41), edges(-1, 0, 3, 4, 9, 10, 13, 14));
    }

    private static void allCalls(State s) {
        each("over", false, s, (x, a) -> x.over(a[0], a[1]), (t, a) -> noWord(t, a[0]) || noWord(t, a[1]) ? UNKNOWN : TAKEN, wordEdges(s), wordEdges(s));
        each("all", false, s, (x, a) -> x.all(a[0]), (t, a) -> out(a[0], -1, 15) ? OUTSIDE : t.words() == 0 ? STATE : TAKEN,
            edges(MIN, -2, -1, 0, 15, 16, MAX));
        Rule counted = (t, a) -> out(a[0], 0, 30) ? OUTSIDE : t.words() == 0 ? STATE : TAKEN;
        each("have", false, s, (x, a) -> x.have(a[0]), counted, edges(MIN, -1, 0, 30, 31, MAX));
        each("free", false, s, (x, a) -> x.free(a[0]), counted, edges(MIN, -1, 0, 30, 31, MAX));
        each("longest", false, s, (x, a) -> x.longest(), (t, a) -> t.words() == 0 ? STATE : TAKEN);
        each("spare", false, s, (x, a) -> x.spare(), (t, a) -> t.words() == 0 ? STATE : TAKEN);
    }

    private static void heardCalls(State s) {
        each("reading", true, s, (x, a) -> x.reading(a[0], a[1], a[2], a[3], a[4], a[5]), (t, a) -> {
            if (noWord(t, a[0]) || noSheet(a[1])) return UNKNOWN;
            if (noLane(a[2]) || out(a[4], 0, 8) || out(a[5], 0, 1)) return OUTSIDE;
            int fault = cellsOf(t, a[1], a[2], a[3], a[4]);
            if (fault != TAKEN) return fault;
            return noLetters(t, a[1], a[3], a[4]) ? OUTSIDE : t.readings == 8 ? FULL : TAKEN;
        }, edges(-1, 0, s.words() - 1, s.words()), edges(-1, 0, 1, 2, 3, 4), edges(-1, 0, 1, 2, 3), edges(-1, 0, 2, s.lengths[1], s.lengths[2] + 1),
            edges(-1, 0, 1, 8, 9), edges(-1, 0, 1, 2));
        each("back", false, s, (x, a) -> x.back(a[0]), (t, a) -> out(a[0], 0, t.readings) ? OUTSIDE : TAKEN,
            edges(MIN, -1, 0, 1, s.readings, s.readings + 1, MAX));
        each("kinds", false, s, (x, a) -> x.kinds(a[0]), (t, a) -> noWord(t, a[0]) ? UNKNOWN : TAKEN, wordEdges(s));
        each("lasts", false, s, (x, a) -> x.lasts(a[0]), (t, a) -> noWord(t, a[0]) ? UNKNOWN : TAKEN, wordEdges(s));
        each("odds", false, s, (x, a) -> x.odds(a[0], a[1]), (t, a) ->
            out(a[0], 0, 30) || out(a[1], 0, 1) ? OUTSIDE : t.words() == 0 ? STATE : TAKEN,
            edges(MIN, -1, 0, 30, 31, MAX), edges(MIN, -1, 0, 1, 2, MAX));
    }

    private static void sheetCalls(State s) {
        each("sheet", true, s, (x, a) -> x.sheet(a[0], a[1], a[2]), (t, a) ->
            noSheet(a[0]) ? UNKNOWN : noLane(a[1]) || a[2] > 60 ? OUTSIDE : a[2] < 0 ? SIZE : TAKEN,
            sheetEdges(), laneEdges(), edges(MIN, -1, 0, 60, 61, MAX));
        each("lose", false, s, (x, a) -> x.lose(a[0]), (t, a) -> noSheet(a[0]) ? UNKNOWN : TAKEN, sheetEdges());
        each("put", true, s, (x, a) -> x.put(a[0], a[1], a[2]), (t, a) ->
            noSheet(a[0]) ? UNKNOWN : t.lanes[a[0]] < 0 ? NULL : out(a[1], 0, t.lengths[a[0]] - 1) ? INDEX : TAKEN,
            sheetEdges(), placeEdges(s), edges(MIN, 0, MAX));
        each("cell", true, s, (x, a) -> x.cell(a[0], a[1], a[2]), (t, a) -> {
            if (noSheet(a[0])) return UNKNOWN;
            if (noLane(a[2])) return OUTSIDE;
            int fault = cellsOf(t, a[0], a[2], 0, 0);
            return fault != TAKEN ? fault : out(a[1], 0, t.lengths[a[0]] - 1) ? INDEX : TAKEN;
        }, sheetEdges(), placeEdges(s), laneEdges());
        each("copy", true, s, (x, a) -> x.copy(a[0], a[1], a[2], a[3], a[4]), (t, a) -> {
            if (noSheet(a[0]) || noSheet(a[2])) return UNKNOWN;
            if (t.lanes[a[0]] < 0 || t.lanes[a[2]] < 0) return NULL;
            if (t.lanes[a[0]] != t.lanes[a[2]]) return CAST;
            return missing(t, a[0], a[1], a[4]) || missing(t, a[2], a[3], a[4]) ? INDEX : TAKEN;
        }, edges(-1, 0, 1, 2, 3, 4), edges(MIN, -1, 0, s.lengths[0], s.lengths[1] + 1), edges(-1, 0, 1, 2, 3, 4),
            edges(-1, 0, s.lengths[1], s.lengths[2] + 1, MAX), edges(MIN, -1, 0, 3, 61, MAX));
    }

    private static void partCalls(State s) {
        each("tell", false, s, (x, a) -> x.tell(a[0]), (t, a) -> noWord(t, a[0]) ? UNKNOWN : TAKEN, wordEdges(s));
        each("spelt", false, s, (x, a) -> x.spelt(a[0]), (t, a) -> noWord(t, a[0]) ? UNKNOWN : TAKEN, wordEdges(s));
        each("as", true, s, (x, a) -> x.as(a[0], a[1]), (t, a) ->
            noWord(t, a[0]) ? UNKNOWN : out(a[1], 0, 2) ? OUTSIDE : "pbt".indexOf(t.text.split(";")[a[0] + 1].charAt(0)) < a[1] ? CAST : TAKEN,
            wordEdges(s), edges(MIN, -1, 0, 1, 2, 3, MAX));
        each("many", false, s, (x, a) -> x.many(a[0]), (t, a) -> out(a[0], 0, 3) ? OUTSIDE : TAKEN, edges(MIN, -1, 0, 1, 2, 3, 4, MAX));
        each("trace", false, s, (x, a) -> x.trace(), (t, a) -> TAKEN);
    }
}
