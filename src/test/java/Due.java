/** What the tests share: an object under test, its sheets filled by texts, and answers that are due. */
final class Due {
    final OneLongRow x = new OneLongRow();
    private final String name;
    private static int wrong = 0;

    Due(String name) {
        this.name = name;
    }

    /** Prints an answer that is not the one due. */
    void due(String call, long got, long want) {
        if (got != want) {
            wrong++;
            System.out.println(name + ": " + call + " answered " + got + ", due is " + want);
        }
    }

    /** Puts the codes of a text on sheet 3 (bytes) and takes the words by it. */
    int words(String text) {
        bytes(3, text);
        return x.words(3, 0, 0, text.length());
    }

    void bytes(int sheet, String text) {
        due("sheet for " + text, x.sheet(sheet, 0, text.length()), 1);
        for (int k = 0; k < text.length(); k++) {
            due("put for " + text, x.put(sheet, k, text.charAt(k)), 1);
        }
    }

    /** Puts letters a .. c as numbers 0 .. 2 on sheet 2 (ints) and asks a row of them. */
    int row(String letters, int what) {
        letters(2, letters);
        return x.row(2, 2, 0, letters.length(), what);
    }

    int reading(int w, String letters, int stands) {
        letters(2, letters);
        return x.reading(w, 2, 2, 0, letters.length(), stands);
    }

    void letters(int sheet, String letters) {
        due("sheet for " + letters, x.sheet(sheet, 2, letters.length()), 1);
        for (int k = 0; k < letters.length(); k++) {
            due("put for " + letters, x.put(sheet, k, letters.charAt(k) - 'a'), 1);
        }
    }

    static void end() {
        if (wrong != 0) {
            System.out.println(wrong + " answers are not as due");
            System.exit(1);
        }
    }
}
