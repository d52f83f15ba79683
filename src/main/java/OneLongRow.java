import java.util.Arrays;

/** All words in one: see the document's promises; README.md tells how it is used. */
public final class OneLongRow {
    public static final int UNKNOWN = -1, OUTSIDE = -2, STATE = -3, FULL = -4, NONE = -9;
    public static final long LOST = Long.MIN_VALUE;

    private static final int NO_FAULT = 0, NULL_FAULT = 1, CAST_FAULT = 2, INDEX_FAULT = 3, SIZE_FAULT = 4;
    private static final int FAULT_BASE = -10, TEXT_BASE = -100;
    private static final int PLAIN = 0, BOTH = 1, TURNED = 2, KINDS = 3;
    private static final int LETTERS = 3, WORD_LETTERS = 4, WORDS = 4, FORMS = 2;
    private static final int SAID_MOST = 60, TOLD_MOST = 40;
    private static final int READINGS = 8, READING_LETTERS = 8;
    private static final int SHEETS = 4, LANES = 3, CELLS = 60;
    private static final int COUNTED_MOST = 30, ALL_MOST = WORDS * WORD_LETTERS;
    private static final int PLACES_FROM = 10;

    private final Sheet[] sheets = new Sheet[SHEETS];
    private final Text text = new Text();
    private Word[] known = newWords();
    private int knownMany;
    private final int[] said = new int[SAID_MOST];
    private int saidMany;
    private final int[] told = new int[TOLD_MOST];
    private final Reading[] readings = new Reading[READINGS];
    private int readingMany;
    private final Word trial = new Word();
    private final int[] formLetters = new int[WORD_LETTERS];
    private final Net net = new Net();
    private final Points points = new Points();
    private final Counts counts = new Counts();
    private boolean netIsOld = true;
    private int traced;
    private int latestFault;

    public OneLongRow() {
        for (int k = 0; k < SHEETS; k++) {
            sheets[k] = new Sheet();
        }
        for (int k = 0; k < READINGS; k++) {
            readings[k] = new Reading();
        }
    }

    // ---- 1 words

    public int words(int sheet, int lane, int i, int n) {
        latestFault = NO_FAULT;
        if (!isSheet(sheet)) {
            return UNKNOWN;
        }
        if (!isBelow(lane, LANES)) {
            return OUTSIDE;
        }
        int fault = sheets[sheet].faultOfCells(lane, i, n);
        if (fault != NO_FAULT) {
            return failWith(fault);
        }
        int wrong = text.firstFault(sheets[sheet], i, n);
        if (wrong != NONE) {
            return TEXT_BASE - wrong;
        }
        takeText();
        return knownMany;
    }

    public int ofWord(int w, int what) {
        if (!isWord(w)) {
            return UNKNOWN;
        }
        Word word = known[w];
        if (what == 0) {
            return word.kind;
        }
        if (what == 1) {
            return word.length;
        }
        if (what == 2) {
            return word.unlikeForms();
        }
        if (what == 3) {
            return word.timesIn(said, saidMany);
        }
        if (what < PLACES_FROM || what >= PLACES_FROM + WORD_LETTERS) {
            return OUTSIDE;
        }
        int place = what - PLACES_FROM;
        return place < word.length ? word.letters[place] : NONE;
    }

    public int spell(int w, int k, int v) {
        if (!isWord(w) || !isBelow(k, known[w].length)) {
            return UNKNOWN;
        }
        if (!isBelow(v, LETTERS)) {
            return OUTSIDE;
        }
        int before = known[w].letters[k];
        known[w].letters[k] = v;
        netIsOld = true;
        return before;
    }

    // ---- 2 rows

    public int say(int letter) {
        if (!isBelow(letter, LETTERS)) {
            return OUTSIDE;
        }
        if (knownMany == 0) {
            return STATE;
        }
        if (saidMany >= SAID_MOST) {
            return FULL;
        }
        said[saidMany] = letter;
        saidMany++;
        return heardBy(known, knownMany, said, saidMany);
    }

    public int hush() {
        if (knownMany == 0) {
            return STATE;
        }
        int before = saidMany;
        saidMany = 0;
        return before;
    }

    public int row(int sheet, int lane, int i, int n, int what) {
        latestFault = NO_FAULT;
        if (!isSheet(sheet)) {
            return UNKNOWN;
        }
        if (!isBelow(lane, LANES) || n < 0 || n > TOLD_MOST || !isOfRow(what)) {
            return OUTSIDE;
        }
        int fault = sheets[sheet].faultOfCells(lane, i, n);
        if (fault != NO_FAULT) {
            return failWith(fault);
        }
        if (knownMany == 0) {
            return STATE;
        }
        if (!sheets[sheet].lettersTo(told, i, n)) {
            return OUTSIDE;
        }
        if (what < PLACES_FROM) {
            return heardInTold(n, what);
        }
        int w = what - PLACES_FROM;
        return isWord(w) ? known[w].timesIn(told, n) : NONE;
    }

    // ---- 3 all in one

    public int over(int a, int b) {
        if (!isWord(a) || !isWord(b)) {
            return UNKNOWN;
        }
        return known[a].lettersOver(known[b]);
    }

    public int all(int k) {
        if (k < -1 || k >= ALL_MOST) {
            return OUTSIDE;
        }
        if (knownMany == 0) {
            return STATE;
        }
        renewNet();
        if (k < 0) {
            return points.length;
        }
        return k < points.length ? points.letters[k] : NONE;
    }

    public long have(int n) {
        if (!isCounted(n) || knownMany == 0) {
            return LOST;
        }
        renewNet();
        counts.countTo(points, n);
        return counts.withAll[n];
    }

    public long free(int n) {
        if (!isCounted(n) || knownMany == 0) {
            return LOST;
        }
        renewNet();
        counts.countTo(points, n);
        return counts.withNone[n];
    }

    public int longest() {
        if (knownMany == 0) {
            return STATE;
        }
        renewNet();
        return net.longestSilent();
    }

    public int spare() {
        if (knownMany == 0) {
            return STATE;
        }
        int set = 0;
        for (int w = 0; w < knownMany; w++) {
            for (int other = 0; other < knownMany; other++) {
                if (other != w && standsInEachForm(known[w], known[other])) {
                    set |= 1 << w;
                }
            }
        }
        return set;
    }

    // ---- 4 what was heard

    public int reading(int w, int sheet, int lane, int i, int n, int stands) {
        latestFault = NO_FAULT;
        if (!isWord(w) || !isSheet(sheet)) {
            return UNKNOWN;
        }
        if (!isBelow(lane, LANES) || n < 0 || n > READING_LETTERS || !isBelow(stands, 2)) {
            return OUTSIDE;
        }
        int fault = sheets[sheet].faultOfCells(lane, i, n);
        if (fault != NO_FAULT) {
            return failWith(fault);
        }
        if (!sheets[sheet].lettersTo(told, i, n)) {
            return OUTSIDE;
        }
        if (readingMany >= READINGS) {
            return FULL;
        }
        readings[readingMany].keep(w, told, n, stands == 1);
        readingMany++;
        return readingMany - 1;
    }

    public int back(int n) {
        if (n < 0 || n > readingMany) {
            return OUTSIDE;
        }
        readingMany -= n;
        return readingMany;
    }

    public int kinds(int w) {
        if (!isWord(w)) {
            return UNKNOWN;
        }
        trial.become(known[w]);
        int set = 0;
        for (int kind = 0; kind < KINDS; kind++) {
            trial.kind = kind;
            if (readingsAreSo(w)) {
                set |= 1 << kind;
            }
        }
        return set;
    }

    public int lasts(int w) {
        if (!isWord(w)) {
            return UNKNOWN;
        }
        trial.become(known[w]);
        int set = 0;
        for (int letter = 0; letter < LETTERS; letter++) {
            trial.changeLast(letter);
            if (readingsAreSo(w)) {
                set |= 1 << letter;
            }
        }
        return set;
    }

    public long odds(int n, int which) {
        if (!isCounted(n) || !isBelow(which, 2) || knownMany == 0) {
            return LOST;
        }
        renewNet();
        counts.countTo(points, n);
        long upper = counts.withAll[n];
        long lower = 1;
        // The lower number is a power of 3, so 3 is all that the two can share.
        for (int k = 0; k < n; k++) {
            if (upper % LETTERS == 0) {
                upper /= LETTERS;
            } else {
                lower *= LETTERS;
            }
        }
        return which == 0 ? upper : lower;
    }

    // ---- 5 sheets, parts

    public int sheet(int k, int lane, int n) {
        latestFault = NO_FAULT;
        if (!isSheet(k)) {
            return UNKNOWN;
        }
        if (!isBelow(lane, LANES) || n > CELLS) {
            return OUTSIDE;
        }
        if (n < 0) {
            return failWith(SIZE_FAULT);
        }
        sheets[k].begin(lane, n);
        return 1;
    }

    public int lose(int k) {
        if (!isSheet(k)) {
            return UNKNOWN;
        }
        int had = sheets[k].isThere ? 1 : 0;
        sheets[k].isThere = false;
        return had;
    }

    public int put(int k, int i, int v) {
        latestFault = NO_FAULT;
        if (!isSheet(k)) {
            return UNKNOWN;
        }
        if (!sheets[k].isThere) {
            return failWith(NULL_FAULT);
        }
        if (!isBelow(i, sheets[k].length)) {
            return failWith(INDEX_FAULT);
        }
        sheets[k].write(i, v);
        return 1;
    }

    public long cell(int k, int i, int lane) {
        latestFault = NO_FAULT;
        if (!isSheet(k) || !isBelow(lane, LANES)) {
            return LOST;
        }
        int fault = sheets[k].faultOfLane(lane);
        if (fault == NO_FAULT && !isBelow(i, sheets[k].length)) {
            fault = INDEX_FAULT;
        }
        if (fault != NO_FAULT) {
            latestFault = fault;
            return LOST;
        }
        return sheets[k].cells[i];
    }

    public int copy(int k, int i, int other, int j, int n) {
        latestFault = NO_FAULT;
        if (!isSheet(k) || !isSheet(other)) {
            return UNKNOWN;
        }
        Sheet from = sheets[k];
        Sheet to = sheets[other];
        if (!from.isThere || !to.isThere) {
            return failWith(NULL_FAULT);
        }
        if (from.lane != to.lane) {
            return failWith(CAST_FAULT);
        }
        if (!from.hasCells(i, n) || !to.hasCells(j, n)) {
            return failWith(INDEX_FAULT);
        }
        System.arraycopy(from.cells, i, to.cells, j, n);
        return n;
    }

    public int tell(int w) {
        if (!isWord(w)) {
            return UNKNOWN;
        }
        Word word = known[w];
        if (word.kind == TURNED) {
            return tellTurned(word);
        }
        return word.kind == BOTH ? tellBoth(word) : tellPlain(word);
    }

    public int spelt(int w) {
        if (!isWord(w)) {
            return UNKNOWN;
        }
        if (known[w].kind == TURNED) {
            leaveTrace(5);
            return 30;
        }
        leaveTrace(4);
        return known[w].letters[0];
    }

    public int as(int w, int kind) {
        latestFault = NO_FAULT;
        if (!isWord(w)) {
            return UNKNOWN;
        }
        if (!isBelow(kind, KINDS)) {
            return OUTSIDE;
        }
        // Each kind is one of every kind that is numbered below it.
        return known[w].kind >= kind ? 1 : failWith(CAST_FAULT);
    }

    public int trace() {
        return traced;
    }

    public int fault() {
        return latestFault;
    }

    public int many(int what) {
        switch (what) {
            case 0:
                return knownMany;
            case 1:
                return saidMany;
            case 2:
                return standIn(said, saidMany);
            case 3:
                return readingMany;
            default:
                return OUTSIDE;
        }
    }

    // ---- what the calls share

    private static boolean isBelow(int number, int bound) {
        return number >= 0 && number < bound;
    }

    private static boolean isSheet(int k) {
        return isBelow(k, SHEETS);
    }

    private static boolean isCounted(int n) {
        return n >= 0 && n <= COUNTED_MOST;
    }

    private static boolean isOfRow(int what) {
        return isBelow(what, 4) || what >= PLACES_FROM && what < PLACES_FROM + WORDS;
    }

    private boolean isWord(int w) {
        return isBelow(w, knownMany);
    }

    private int failWith(int fault) {
        latestFault = fault;
        return FAULT_BASE - fault;
    }

    private static Word[] newWords() {
        Word[] made = new Word[WORDS];
        for (int w = 0; w < WORDS; w++) {
            made[w] = new Word();
        }
        return made;
    }

    // The text and the object change rows, so that no call makes new ones.
    private void takeText() {
        Word[] old = known;
        known = text.drafts;
        text.drafts = old;
        knownMany = text.begun;
        saidMany = 0;
        readingMany = 0;
        netIsOld = true;
    }

    private void renewNet() {
        if (netIsOld) {
            net.learn(known, knownMany);
            points.lay(net);
            counts.begin(points);
            netIsOld = false;
        }
    }

    private static int heardBy(Word[] words, int wordMany, int[] row, int end) {
        int set = 0;
        for (int w = 0; w < wordMany; w++) {
            if (words[w].endsAt(row, end)) {
                set |= 1 << w;
            }
        }
        return set;
    }

    private int standIn(int[] row, int n) {
        int set = 0;
        for (int end = 1; end <= n; end++) {
            set |= heardBy(known, knownMany, row, end);
        }
        return set;
    }

    private int heardInTold(int n, int what) {
        int whole = (1 << knownMany) - 1;
        int set = 0;
        int times = 0;
        int first = NONE;
        int complete = NONE;
        for (int end = 1; end <= n; end++) {
            int heard = heardBy(known, knownMany, told, end);
            set |= heard;
            times += Integer.bitCount(heard);
            if (first == NONE && set != 0) {
                first = end;
            }
            if (complete == NONE && set == whole) {
                complete = end;
            }
        }
        if (what == 0) {
            return set;
        }
        if (what == 1) {
            return first;
        }
        return what == 2 ? complete : times;
    }

    private boolean standsInEachForm(Word word, Word other) {
        for (int form = 0; form < FORMS; form++) {
            for (int place = 0; place < other.length; place++) {
                formLetters[place] = other.letterOf(form, place);
            }
            if (!word.standsIn(formLetters, other.length)) {
                return false;
            }
        }
        return true;
    }

    // All readings count, those of other words too, with the trial in place of word w.
    private boolean readingsAreSo(int w) {
        for (int k = 0; k < readingMany; k++) {
            Reading one = readings[k];
            Word word = one.word == w ? trial : known[one.word];
            if (word.standsIn(one.letters, one.length) != one.stands) {
                return false;
            }
        }
        return true;
    }

    private void leaveTrace(int body) {
        traced = 31 * traced + body;
    }

    private int tellPlain(Word word) {
        leaveTrace(1);
        return word.length;
    }

    private int tellBoth(Word word) {
        leaveTrace(2);
        return tellPlain(word) + 100;
    }

    private int tellTurned(Word word) {
        leaveTrace(3);
        int asBoth = tellBoth(word);
        return asBoth + tellPlain(word);
    }

    /** A word as it is spelt now, and its kind. */
    private static final class Word {
        final int[] letters = new int[WORD_LETTERS];
        int length;
        int kind;

        void become(Word other) {
            kind = other.kind;
            length = other.length;
            System.arraycopy(other.letters, 0, letters, 0, WORD_LETTERS);
        }

        void changeLast(int letter) {
            if (length > 0) {
                letters[length - 1] = letter;
            }
        }

        // Form 0 is the word as it is; form 1 is its other one (for a plain word the same again).
        int letterOf(int form, int place) {
            if (form == 0 || kind == PLAIN) {
                return letters[place];
            }
            if (kind == BOTH) {
                return letters[length - 1 - place];
            }
            return letters[place + 1 < length ? place + 1 : 0];
        }

        int unlikeForms() {
            for (int place = 0; place < length; place++) {
                if (letterOf(0, place) != letterOf(1, place)) {
                    return 2;
                }
            }
            return 1;
        }

        boolean formEndsAt(int form, int[] row, int end) {
            int begin = end - length;
            if (begin < 0 || end > row.length) {
                return false;
            }
            for (int place = 0; place < length; place++) {
                if (row[begin + place] != letterOf(form, place)) {
                    return false;
                }
            }
            return true;
        }

        boolean endsAt(int[] row, int end) {
            return formEndsAt(0, row, end) || kind != PLAIN && formEndsAt(1, row, end);
        }

        boolean standsIn(int[] row, int n) {
            for (int end = length; end <= n; end++) {
                if (endsAt(row, end)) {
                    return true;
                }
            }
            return false;
        }

        // Forms of a word are of one length: it begins in as many places as it ends in.
        int timesIn(int[] row, int n) {
            int times = 0;
            for (int end = length; end <= n; end++) {
                if (endsAt(row, end)) {
                    times++;
                }
            }
            return times;
        }

        int lettersOver(Word next) {
            for (int many = Math.min(length, next.length); many > 0; many--) {
                if (liesOver(next, many)) {
                    return many;
                }
            }
            return 0;
        }

        private boolean liesOver(Word next, int many) {
            for (int place = 0; place < many; place++) {
                if (letters[length - many + place] != next.letters[place]) {
                    return false;
                }
            }
            return true;
        }
    }

    /** A sheet: nothing, or a row of numbers of a lane. */
    private static final class Sheet {
        final int[] cells = new int[CELLS];
        boolean isThere;
        int lane;
        int length;

        void begin(int newLane, int newLength) {
            isThere = true;
            lane = newLane;
            length = newLength;
            Arrays.fill(cells, 0);
        }

        void write(int i, int v) {
            if (lane == 0) {
                cells[i] = (byte) v;
            } else if (lane == 1) {
                cells[i] = (short) v;
            } else {
                cells[i] = v;
            }
        }

        boolean hasCells(int i, int n) {
            return n >= 0 && i >= 0 && i <= length && n <= length - i;
        }

        int faultOfLane(int askedLane) {
            if (!isThere) {
                return NULL_FAULT;
            }
            return lane == askedLane ? NO_FAULT : CAST_FAULT;
        }

        int faultOfCells(int askedLane, int i, int n) {
            int fault = faultOfLane(askedLane);
            if (fault != NO_FAULT) {
                return fault;
            }
            if (n < 0) {
                return SIZE_FAULT;
            }
            return hasCells(i, n) ? NO_FAULT : INDEX_FAULT;
        }

        boolean lettersTo(int[] row, int i, int n) {
            if (!hasCells(i, n) || n > row.length) {
                return false;
            }
            for (int k = 0; k < n; k++) {
                if (!isBelow(cells[i + k], LETTERS)) {
                    return false;
                }
                row[k] = cells[i + k];
            }
            return true;
        }
    }

    /** What was heard of a word in a row. */
    private static final class Reading {
        final int[] letters = new int[READING_LETTERS];
        int word;
        int length;
        boolean stands;

        void keep(int w, int[] row, int n, boolean isStanding) {
            word = w;
            length = n;
            stands = isStanding;
            System.arraycopy(row, 0, letters, 0, n);
        }
    }

    /** Reads a text into drafts, so that a wrong text leaves the words as they are. */
    private static final class Text {
        static final int HEAD = 0, SEMICOLON = 1, KIND = 2, SLASH = 3, FIRST_LETTER = 4, MORE = 5, BROKEN = 6;

        Word[] drafts = newWords();
        int begun;

        int firstFault(Sheet sheet, int from, int n) {
            if (!sheet.hasCells(from, n)) {
                return 0;
            }
            begun = 0;
            int state = HEAD;
            for (int k = 0; k < n; k++) {
                state = stateAfter(state, sheet.cells[from + k]);
                if (state == BROKEN) {
                    return k;
                }
            }
            return state == MORE ? NONE : n;
        }

        private int stateAfter(int state, int code) {
            switch (state) {
                case HEAD:
                    return code == 'w' ? SEMICOLON : BROKEN;
                case SEMICOLON:
                    return code == ';' ? beginWord() : BROKEN;
                case KIND:
                    return takeKind(code);
                case SLASH:
                    return code == '/' ? FIRST_LETTER : BROKEN;
                case FIRST_LETTER:
                    return takeLetter(code);
                case MORE:
                    return code == ';' ? beginWord() : takeLetter(code);
                default:
                    return BROKEN;
            }
        }

        private int beginWord() {
            if (begun >= WORDS) {
                return BROKEN;
            }
            drafts[begun].length = 0;
            begun++;
            return KIND;
        }

        private int takeKind(int code) {
            int kind = code == 'p' ? PLAIN : code == 'b' ? BOTH : code == 't' ? TURNED : NONE;
            if (kind == NONE || begun < 1) {
                return BROKEN;
            }
            drafts[begun - 1].kind = kind;
            return SLASH;
        }

        private int takeLetter(int code) {
            if (code < 'a' || code > 'c' || begun < 1) {
                return BROKEN;
            }
            Word word = drafts[begun - 1];
            if (word.length >= WORD_LETTERS) {
                return BROKEN;
            }
            word.letters[word.length] = code - 'a';
            word.length++;
            return MORE;
        }
    }

    /**
     * Rows by their last letters: knot 0 is the empty row, and letter c behind knot k leads to knot 3 k + 1 + c.
     * Of a row that goes on only its longest end with which a form begins matters: such knots are stayed in,
     * and others give up their first letters until they are one.
     */
    private static final class Net {
        static final int STAYS = 40, KNOTS = 121;

        final int[] shorter = new int[KNOTS];
        final int[] heard = new int[KNOTS];
        final int[] after = new int[KNOTS];
        final boolean[] isStay = new boolean[STAYS];
        final int[] trail = new int[WORD_LETTERS];
        int whole;

        Net() {
            for (int knot = 1 + LETTERS; knot < KNOTS; knot++) {
                shorter[knot] = behind(shorter[(knot - 1) / LETTERS], (knot - 1) % LETTERS);
            }
        }

        static int behind(int knot, int letter) {
            return LETTERS * knot + 1 + letter;
        }

        void learn(Word[] words, int wordMany) {
            whole = (1 << wordMany) - 1;
            markStays(words, wordMany);
            for (int stay = 0; stay < STAYS; stay++) {
                for (int letter = 0; letter < LETTERS && isStay[stay]; letter++) {
                    int knot = behind(stay, letter);
                    heard[knot] = heardBy(words, wordMany, trail, layTrail(knot));
                    after[knot] = stayAt(knot);
                }
            }
        }

        private void markStays(Word[] words, int wordMany) {
            for (int stay = 0; stay < STAYS; stay++) {
                isStay[stay] = stay == 0;
            }
            for (int w = 0; w < wordMany; w++) {
                for (int form = 0; form < FORMS; form++) {
                    markBeginnings(words[w], form);
                }
            }
        }

        private void markBeginnings(Word word, int form) {
            int knot = 0;
            for (int place = 0; place + 1 < word.length; place++) {
                knot = behind(knot, word.letterOf(form, place));
                if (knot < STAYS) {
                    isStay[knot] = true;
                }
            }
        }

        private int layTrail(int knot) {
            int many = 0;
            for (int at = knot; at > 0 && many < WORD_LETTERS; at = (at - 1) / LETTERS) {
                many++;
            }
            int at = knot;
            for (int place = many - 1; place >= 0; place--) {
                trail[place] = (at - 1) % LETTERS;
                at = (at - 1) / LETTERS;
            }
            return many;
        }

        private int stayAt(int knot) {
            int at = knot;
            for (int given = 0; given < WORD_LETTERS && !(at < STAYS && isStay[at]); given++) {
                at = shorter[at];
            }
            return at;
        }

        int longestSilent() {
            long reached = 1;
            // A row of as many letters as there are stays comes to one of them twice, so it goes on without end.
            for (int n = 0; n <= STAYS; n++) {
                reached = silentlyReachedFrom(reached);
                if (reached == 0) {
                    return n;
                }
            }
            return NONE;
        }

        private long silentlyReachedFrom(long reached) {
            long next = 0;
            for (int stay = 0; stay < STAYS; stay++) {
                if ((reached >> stay & 1) == 0) {
                    continue;
                }
                for (int letter = 0; letter < LETTERS; letter++) {
                    int knot = behind(stay, letter);
                    if (heard[knot] == 0) {
                        next |= 1L << after[knot];
                    }
                }
            }
            return next;
        }
    }

    /**
     * Points that rows come to: a stay and the set of words heard so far, of which the whole set is one point,
     * wherever the row stays. They are numbered as they are found: by shorter rows first, then by earlier ones,
     * so the row by which a point was found is the first of the shortest that come to it.
     */
    private static final class Points {
        static final int SETS = 1 << WORDS;
        // Beginnings of at most 8 forms: none, 3 of a letter, 8 of two, 8 of three.
        static final int MOST = 20 * SETS;

        final int[] numbers = new int[Net.STAYS * SETS];
        final int[] places = new int[MOST];
        final int[] foundBy = new int[MOST];
        final int[] next = new int[LETTERS * MOST];
        final int[] letters = new int[ALL_MOST];
        int many;
        int wholePoint;
        int length;

        void lay(Net net) {
            Arrays.fill(numbers, NONE);
            many = 0;
            find(0, 0);
            for (int point = 0; point < many && point < MOST; point++) {
                for (int letter = 0; letter < LETTERS; letter++) {
                    next[LETTERS * point + letter] = pointAfter(net, point, letter);
                }
            }
            wholePoint = Math.max(0, numbers[net.whole]);
            layShortestRow();
        }

        private int pointAfter(Net net, int point, int letter) {
            int knot = Net.behind(places[point] / SETS, letter);
            int set = places[point] % SETS;
            if (set == net.whole) {
                return point;
            }
            set |= net.heard[knot];
            int stay = set == net.whole ? 0 : net.after[knot];
            return find(stay * SETS + set, LETTERS * point + letter);
        }

        private int find(int place, int step) {
            if (numbers[place] == NONE && many < MOST) {
                numbers[place] = many;
                places[many] = place;
                foundBy[many] = step;
                many++;
            }
            return Math.max(0, numbers[place]);
        }

        boolean isSilent(int point) {
            return places[point] % SETS == 0;
        }

        private void layShortestRow() {
            length = 0;
            for (int at = wholePoint; at > 0 && length < ALL_MOST; at = foundBy[at] / LETTERS) {
                length++;
            }
            int at = wholePoint;
            for (int place = length - 1; place >= 0; place--) {
                letters[place] = foundBy[at] % LETTERS;
                at = foundBy[at] / LETTERS;
            }
        }
    }

    /** How many rows of each length have all words and none, counted on as far as was asked. */
    private static final class Counts {
        final long[] withAll = new long[COUNTED_MOST + 1];
        final long[] withNone = new long[COUNTED_MOST + 1];
        long[] rows = new long[Points.MOST];
        long[] longerRows = new long[Points.MOST];
        int counted;

        void begin(Points points) {
            Arrays.fill(rows, 0);
            rows[0] = 1;
            counted = 0;
            addUp(points);
        }

        void countTo(Points points, int n) {
            while (counted < n && counted < COUNTED_MOST) {
                addLetter(points);
                counted++;
                addUp(points);
            }
        }

        private void addLetter(Points points) {
            for (int point = 0; point < points.many; point++) {
                longerRows[point] = 0;
            }
            for (int point = 0; point < points.many; point++) {
                long many = rows[point];
                for (int letter = 0; letter < LETTERS && many > 0; letter++) {
                    longerRows[points.next[LETTERS * point + letter]] += many;
                }
            }
            long[] shorter = rows;
            rows = longerRows;
            longerRows = shorter;
        }

        private void addUp(Points points) {
            long none = 0;
            for (int point = 0; point < points.many; point++) {
                if (points.isSilent(point)) {
                    none += rows[point];
                }
            }
            withAll[counted] = rows[points.wholePoint];
            withNone[counted] = none;
        }
    }
}
