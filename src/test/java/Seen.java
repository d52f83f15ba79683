/**
 * All that can be seen of an object but its fault, as a text. The object is used up by the looking: readings are
 * taken back, a word is spelt in all ways. So a test makes two objects alike and looks at each once.
 */
final class Seen {
    private final OneLongRow x;
    private final StringBuilder text = new StringBuilder();

    private Seen(OneLongRow x) {
        this.x = x;
    }

    static String of(OneLongRow x) {
        Seen seen = new Seen(x);
        seen.counts();
        seen.words();
        seen.sheets();
        seen.readings();
        seen.said();
        return seen.text.toString();
    }

    private void add(String name, long answer) {
        text.append(name).append(' ').append(answer).append('\n');
    }

    private void counts() {
        add("trace", x.trace());
        for (int what = 0; what < 4; what++) add("many " + what, x.many(what));
        add("all", x.all(-1));
        add("longest", x.longest());
        add("spare", x.spare());
        add("have", x.have(6));
    }

    private void words() {
        for (int w = 0; w < x.many(0); w++) {
            for (int what = 0; what < 4; what++) add("word " + w + " " + what, x.ofWord(w, what));
            for (int what = 10; what < 14; what++) add("word " + w + " " + what, x.ofWord(w, what));
        }
    }

    private void sheets() {
        for (int k = 0; k < 4; k++) {
            for (int lane = 0; lane < 3; lane++) {
                x.cell(k, -1, lane);
                add("sheet " + k + " as lane " + lane, x.fault());
                long cell = x.cell(k, 0, lane);
                for (int i = 0; cell != OneLongRow.LOST; i++, cell = x.cell(k, i, lane)) add("cell " + i, cell);
            }
        }
    }

    private void readings() {
        do {
            for (int w = 0; w < x.many(0); w++) {
                add("kinds " + w, x.kinds(w));
                add("lasts " + w, x.lasts(w));
            }
        } while (x.back(1) >= 0);
    }

    /** How often each two letters stand in THE ROW, by spelling the first word anew. */
    private void said() {
        for (int letters = 0; letters < 9; letters++) {
            x.spell(0, 0, letters / 3);
            x.spell(0, 1, letters % 3);
            add("said " + letters, x.ofWord(0, 3));
        }
        add("last letters", x.say(2));
    }
}
