import java.util.Arrays;
import java.util.List;
import java.util.Map;
import java.util.TreeMap;
import java.util.function.Supplier;

/**
 * What a call that is taken leaves alone: it changes what its promise tells and nothing else, and nothing of another
 * object. Each part of an object is looked at on an object of its own, since looking uses it up.
 */
public final class LeavesTest {
    private static final String TEXT = "w;p/abc;b/ca;t/ab;p/cc";
    private static final String[] LETTERS = {"abc", "ca", "ab", "cc"};
    private static final int EARLIER_FAULT = 4;
    private static final Map<String, String> BEFORE = parts(LeavesTest::made);
    private static int wrong = 0;

    private interface Call {
        long of(OneLongRow x);
    }

    public static void main(String[] args) {
        lookingTellsTheParts();
        wordsAndRows();
        allInOne();
        heard();
        sheets();
        partsOfWords();
        if (wrong != 0) System.exit(1);
    }

    /** An object with something of everything; the latest fault is SIZE. */
    private static OneLongRow made() {
        OneLongRow x = new OneLongRow();
        x.sheet(0, 0, TEXT.length());
        for (int i = 0; i < TEXT.length(); i++) x.put(0, i, TEXT.charAt(i));
        x.words(0, 0, 0, TEXT.length());
        x.sheet(1, 1, 3);
        x.put(1, 0, 300);
        x.sheet(2, 2, 6);
        x.sheet(3, 2, 4);
        int[] letters = {2, 0, 1, 2, 0, 2};
        for (int i = 0; i < letters.length; i++) x.put(2, i, letters[i]);
        x.reading(0, 2, 2, 0, 4, 1);
        x.reading(1, 2, 2, 4, 2, 1);
        x.reading(3, 2, 2, 0, 6, 0);
        x.put(3, 2, -70000);
        for (int letter : new int[] {0, 1, 2, 2, 0, 0, 1}) x.say(letter);
        x.have(4);
        x.tell(2);
        x.sheet(2, 2, -1);
        return x;
    }

    private static Map<String, String> parts(Supplier<OneLongRow> maker) {
        Map<String, String> parts = new TreeMap<>();
        parts.put("trace", "" + maker.get().trace());
        parts.put("fault", "" + maker.get().fault());
        words(parts, maker.get());
        parts.put("counts", counts(maker.get()));
        parts.put("said", said(maker.get()));
        parts.put("readings", readings(maker.get()));
        for (int k = 0; k < 4; k++) parts.put("sheet " + k, sheet(maker.get(), k));
        return parts;
    }

    private static void words(Map<String, String> parts, OneLongRow x) {
        parts.put("words", "" + x.many(0));
        for (int w = 0; w < 4; w++) {
            parts.put("kind " + w, x.ofWord(w, 0) + " " + x.ofWord(w, 1));
            parts.put("forms " + w, "" + x.ofWord(w, 2));
            for (int k = 0; k < 4; k++) parts.put("letter " + w + " " + k, "" + x.ofWord(w, 10 + k));
        }
    }

    private static String counts(OneLongRow x) {
        StringBuilder text = new StringBuilder();
        for (int k = -1; k < 16; k++) text.append(x.all(k)).append(' ');
        for (int n = 0; n <= 30; n++) text.append(x.have(n)).append(' ').append(x.free(n)).append(' ').append(x.odds(n, 0)).append(' ');
        text.append(x.longest()).append(' ').append(x.spare());
        for (int a = 0; a < 4; a++) for (int b = 0; b < 4; b++) text.append(' ').append(x.over(a, b));
        return text.toString();
    }

    private static void spellAsAtFirst(OneLongRow x) {
        for (int w = 0; w < 4; w++) {
            for (int k = 0; k < LETTERS[w].length(); k++) x.spell(w, k, LETTERS[w].charAt(k) - 'a');
        }
    }

    /** How often each three letters stand in THE ROW, by spelling the plain first word in all ways. */
    private static String said(OneLongRow x) {
        spellAsAtFirst(x);
        StringBuilder text = new StringBuilder(x.many(1) + ": ");
        for (int three = 0; three < 27; three++) {
            x.spell(0, 0, three / 9);
            x.spell(0, 1, three / 3 % 3);
            x.spell(0, 2, three % 3);
            text.append(x.ofWord(0, 3)).append(' ');
        }
        return text.toString();
    }

    /** All sets, with the last reading taken back from look to look. */
    private static String readings(OneLongRow x) {
        StringBuilder text = new StringBuilder(x.many(3) + ": ");
        do {
            spellAsAtFirst(x);
            for (int w = 0; w < 4; w++) text.append(x.kinds(w)).append(' ').append(x.lasts(w)).append(' ');
            for (int two = 0; two < 9; two++) {
                x.spell(0, 0, two / 3);
                x.spell(0, 1, two % 3);
                text.append(x.lasts(0)).append(' ');
            }
        } while (x.back(1) >= 0);
        return text.toString();
    }

    private static String sheet(OneLongRow x, int k) {
        StringBuilder text = new StringBuilder();
        for (int lane = 0; lane < 3; lane++) {
            long cell = x.cell(k, 0, lane);
            for (int i = 1; x.fault() == 0; i++) {
                text.append(cell).append(' ');
                cell = x.cell(k, i, lane);
            }
            text.append("lane ").append(lane).append(" fault ").append(x.fault()).append(' ');
        }
        return text.toString();
    }

    /** A call that names no FAULTS leaves fault(), too. */
    private static void leaves(String name, Call call, String... changed) {
        changes(name, call, EARLIER_FAULT, changed);
    }

    private static void leavesNoFault(String name, Call call, String... changed) {
        changes(name, call, 0, changed);
    }

    /** Just these parts are changed, each of them. */
    private static void changes(String name, Call call, int fault, String... changed) {
        long answer = call.of(made());
        boolean isTaken = answer >= 0 || answer == OneLongRow.NONE;
        if (!isTaken) tell(name + " is not taken: " + answer);
        Map<String, String> after = parts(() -> {
            OneLongRow x = made();
            call.of(x);
            return x;
        });
        List<String> due = Arrays.asList(changed);
        for (String part : BEFORE.keySet()) {
            boolean isChanged = !BEFORE.get(part).equals(after.get(part));
            if (part.equals("fault")) continue;
            if (isChanged != due.contains(part)) tell(name + (isChanged ? " changes " : " leaves ") + part + ": " + after.get(part));
        }
        if (!after.get("fault").equals("" + fault)) tell(name + " makes fault " + after.get("fault") + ", due is " + fault);
        Map<String, String> another = parts(() -> {
            OneLongRow x = made();
            call.of(made());
            call.of(new OneLongRow());
            return x;
        });
        if (!another.equals(BEFORE)) tell(name + " changes another object");
    }

    private static void tell(String what) {
        wrong++;
        System.out.println(what);
    }

    /** The looking itself tells parts that differ. */
    private static void lookingTellsTheParts() {
        if (!BEFORE.equals(parts(LeavesTest::made))) tell("two objects made alike look unlike");
        if (!BEFORE.get("readings").startsWith("3: 7 ")) tell("not all readings are so: " + BEFORE.get("readings"));
        if (!BEFORE.get("fault").equals("" + EARLIER_FAULT)) tell("the fault ahead is " + BEFORE.get("fault"));
    }

    private static void wordsAndRows() {
        leavesNoFault("words", x -> x.words(0, 0, 0, 7), "words", "kind 1", "kind 2", "kind 3", "forms 1", "forms 2", "forms 3",
            "letter 1 0", "letter 1 1", "letter 1 2", "letter 1 3", "letter 2 0", "letter 2 1", "letter 2 2", "letter 2 3",
            "letter 3 0", "letter 3 1", "letter 3 2", "letter 3 3", "counts", "said", "readings");
        leavesNoFault("words, the same", x -> x.words(0, 0, 0, TEXT.length()), "said", "readings");
        for (int w = 0; w < 4; w++) {
            int word = w;
            for (int what : new int[] {0, 1, 2, 3, 10, 11, 12, 13}) leaves("ofWord", x -> x.ofWord(word, what));
        }
        leaves("spell", x -> x.spell(0, 2, 1), "letter 0 2", "counts");
        leaves("spell of a both one", x -> x.spell(1, 0, 0), "letter 1 0", "forms 1", "counts");
        leaves("spell as it is", x -> x.spell(3, 1, 2));
        for (int letter = 0; letter < 3; letter++) {
            int one = letter;
            leaves("say " + letter, x -> x.say(one), "said");
        }
        leaves("hush", x -> x.hush(), "said");
        for (int what : new int[] {0, 1, 2, 3, 10, 11, 12, 13}) {
            leavesNoFault("row, what " + what, x -> x.row(2, 2, 0, 6, what));
            leavesNoFault("row of none, what " + what, x -> x.row(2, 2, 6, 0, what));
        }
    }

    private static void allInOne() {
        leaves("over", x -> x.over(0, 1));
        for (int k = -1; k < 16; k++) {
            int place = k;
            leaves("all " + k, x -> x.all(place));
        }
        for (int n : new int[] {0, 3, 30}) {
            leaves("have " + n, x -> x.have(n));
            leaves("free " + n, x -> x.free(n));
            leaves("odds " + n, x -> x.odds(n, 0));
            leaves("lower odds " + n, x -> x.odds(n, 1));
        }
        leaves("longest", x -> x.longest());
        leaves("spare", x -> x.spare());
    }

    private static void heard() {
        leavesNoFault("reading", x -> x.reading(0, 2, 2, 1, 3, 0), "readings");
        leavesNoFault("reading of none", x -> x.reading(2, 2, 2, 6, 0, 0), "readings");
        leaves("back 0", x -> x.back(0));
        leaves("back 1", x -> x.back(1), "readings");
        leaves("back 3", x -> x.back(3), "readings");
        for (int w = 0; w < 4; w++) {
            int word = w;
            leaves("kinds " + w, x -> x.kinds(word));
            leaves("lasts " + w, x -> x.lasts(word));
        }
    }

    private static void sheets() {
        for (int k = 0; k < 4; k++) {
            int one = k;
            leavesNoFault("sheet " + k, x -> x.sheet(one, 0, 60), "sheet " + k);
            leavesNoFault("sheet " + k + " of none", x -> x.sheet(one, 2, 0), "sheet " + k);
            leaves("lose " + k, x -> x.lose(one), "sheet " + k);
            leavesNoFault("put " + k, x -> x.put(one, 1, 77), "sheet " + k);
        }
        leavesNoFault("put what is there", x -> x.put(2, 0, 2));
        leavesNoFault("cell", x -> x.cell(1, 0, 1));
        leavesNoFault("cell of ints", x -> x.cell(3, 3, 2));
        leavesNoFault("copy", x -> x.copy(2, 0, 3, 1, 3), "sheet 3");
        leavesNoFault("copy back", x -> x.copy(3, 0, 2, 0, 4), "sheet 2");
        leavesNoFault("copy on itself", x -> x.copy(0, 0, 0, 1, 5), "sheet 0");
        leavesNoFault("copy of none", x -> x.copy(2, 6, 3, 4, 0));
    }

    private static void partsOfWords() {
        for (int w = 0; w < 4; w++) {
            int word = w;
            leaves("tell " + w, x -> x.tell(word), "trace");
            leaves("spelt " + w, x -> x.spelt(word), "trace");
            leavesNoFault("as " + w, x -> x.as(word, 0));
        }
        leavesNoFault("as itself", x -> x.as(2, 2));
        leaves("trace", x -> x.trace());
        leaves("fault", x -> x.fault());
        for (int what = 0; what < 4; what++) {
            int one = what;
            leaves("many " + what, x -> x.many(one));
        }
    }
}
