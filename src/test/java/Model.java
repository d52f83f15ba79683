import java.util.ArrayList;
import java.util.Arrays;
import java.util.HashMap;
import java.util.LinkedHashSet;
import java.util.List;
import java.util.Map;
import java.util.Set;
import java.util.regex.Matcher;
import java.util.regex.Pattern;

/**
 * The document once more, by other means: words are texts, sheets are arrays whose faults the machine itself
 * throws, kinds are classes. Slow and plain; FuzzTest holds the program against it.
 */
final class Model {
    static final int UNKNOWN = -1, OUTSIDE = -2, STATE = -3, FULL = -4, NONE = -9;
    static final long LOST = Long.MIN_VALUE;

    interface Spelt {
        String letters();

        default int spelling(Model m) {
            m.mark(4);
            return letters().charAt(0) - 'a';
        }
    }

    static class Plain implements Spelt {
        String letters;

        public String letters() {
            return letters;
        }

        Set<String> forms() {
            return new LinkedHashSet<>(List.of(letters));
        }

        int telling(Model m) {
            m.mark(1);
            return letters.length();
        }

        final int plainTelling(Model m) {
            m.mark(1);
            return letters.length();
        }
    }

    static class Both extends Plain {
        @Override Set<String> forms() {
            return new LinkedHashSet<>(Arrays.asList(letters, new StringBuilder(letters).reverse().toString()));
        }

        @Override int telling(Model m) {
            m.mark(2);
            return super.telling(m) + 100;
        }
    }

    static final class Turned extends Both {
        @Override Set<String> forms() {
            return new LinkedHashSet<>(Arrays.asList(letters, letters.substring(1) + letters.charAt(0)));
        }

        @Override int telling(Model m) {
            m.mark(3);
            int both = super.telling(m);
            return both + plainTelling(m);
        }

        @Override public int spelling(Model m) {
            m.mark(5);
            return 30;
        }
    }

    private record Heard(int word, String row, boolean stands) { }

    private List<Plain> words = new ArrayList<>();
    private String said = "";
    private List<Heard> readings = new ArrayList<>();
    private final Object[] sheets = new Object[4];
    private int trace;
    private int fault;

    void mark(int body) {
        trace = trace * 31 + body;
    }

    private static int kindOf(Plain word) {
        return word instanceof Turned ? 2 : word instanceof Both ? 1 : 0;
    }

    private static Plain make(int kind, String letters) {
        Plain made = kind == 2 ? new Turned() : kind == 1 ? new Both() : new Plain();
        made.letters = letters;
        return made;
    }

    private int faultOf(RuntimeException thrown) {
        fault = thrown instanceof NullPointerException ? 1
            : thrown instanceof ClassCastException || thrown instanceof ArrayStoreException ? 2
            : thrown instanceof IndexOutOfBoundsException ? 3
            : thrown instanceof NegativeArraySizeException ? 4 : 99;
        return -10 - fault;
    }

    private int[] cells(int sheet, int lane, int i, int n) {
        Object row = sheets[sheet];
        int[] got;
        if (lane == 0) {
            byte[] bytes = (byte[]) row;
            byte[] part = part(bytes, new byte[sizeFor(bytes, n)], i, n);
            got = new int[n];
            for (int k = 0; k < n; k++) got[k] = part[k];
        } else if (lane == 1) {
            short[] shorts = (short[]) row;
            short[] part = part(shorts, new short[sizeFor(shorts, n)], i, n);
            got = new int[n];
            for (int k = 0; k < n; k++) got[k] = part[k];
        } else {
            int[] ints = (int[]) row;
            got = part(ints, new int[sizeFor(ints, n)], i, n);
        }
        return got;
    }

    // A length far above any sheet's is no size for a new array here: INDEX follows anyhow.
    private static int sizeFor(Object row, int n) {
        if (row == null) throw new NullPointerException();
        return Math.min(n, 1000);
    }

    private static <T> T part(T from, T to, int i, int n) {
        System.arraycopy(from, i, to, 0, n);
        return to;
    }

    private static boolean outside(int v, int low, int high) {
        return v < low || v > high;
    }

    int words(int sheet, int lane, int i, int n) {
        fault = 0;
        if (outside(sheet, 0, 3)) return UNKNOWN;
        if (outside(lane, 0, 2)) return OUTSIDE;
        int[] codes;
        try {
            codes = cells(sheet, lane, i, n);
        } catch (RuntimeException thrown) {
            return faultOf(thrown);
        }
        StringBuilder text = new StringBuilder();
        for (int code : codes) text.append(code < 0 || code > 65535 ? '?' : (char) code);
        Pattern whole = Pattern.compile("w(;[pbt]/[abc]{1,4}){1,4}");
        Matcher m = whole.matcher(text);
        if (!m.matches()) {
            int good = 0;
            while (good < text.length() && goesOn(whole, text.substring(0, good + 1))) good++;
            return -100 - good;
        }
        words = new ArrayList<>();
        for (String one : text.substring(2).split(";")) words.add(make("pbt".indexOf(one.charAt(0)), one.substring(2)));
        said = "";
        readings = new ArrayList<>();
        return words.size();
    }

    private static boolean goesOn(Pattern whole, String start) {
        Matcher m = whole.matcher(start);
        return m.matches() || m.hitEnd();
    }

    private boolean noWord(int w) {
        return outside(w, 0, words.size() - 1);
    }

    private static boolean endsAt(Plain word, String row, int end) {
        for (String form : word.forms()) if (row.substring(0, end).endsWith(form)) return true;
        return false;
    }

    private int heard(String row, int end) {
        int set = 0;
        for (int w = 0; w < words.size(); w++) if (endsAt(words.get(w), row, end)) set |= 1 << w;
        return set;
    }

    private static boolean stands(Plain word, String row) {
        for (String form : word.forms()) if (row.contains(form)) return true;
        return false;
    }

    private int standing(String row) {
        int set = 0;
        for (int w = 0; w < words.size(); w++) if (stands(words.get(w), row)) set |= 1 << w;
        return set;
    }

    private static int places(Plain word, String row) {
        int many = 0;
        for (int from = 0; from < row.length(); from++) {
            boolean here = false;
            for (String form : word.forms()) here |= row.startsWith(form, from);
            if (here) many++;
        }
        return many;
    }

    int ofWord(int w, int what) {
        if (noWord(w)) return UNKNOWN;
        Plain word = words.get(w);
        switch (what) {
            case 0: return kindOf(word);
            case 1: return word.letters.length();
            case 2: return word.forms().size();
            case 3: return places(word, said);
            case 10: case 11: case 12: case 13:
                return what - 10 < word.letters.length() ? word.letters.charAt(what - 10) - 'a' : NONE;
            default: return OUTSIDE;
        }
    }

    int spell(int w, int k, int v) {
        if (noWord(w) || outside(k, 0, words.get(w).letters.length() - 1)) return UNKNOWN;
        if (outside(v, 0, 2)) return OUTSIDE;
        StringBuilder letters = new StringBuilder(words.get(w).letters);
        int before = letters.charAt(k) - 'a';
        letters.setCharAt(k, (char) ('a' + v));
        words.get(w).letters = letters.toString();
        return before;
    }

    int say(int letter) {
        if (outside(letter, 0, 2)) return OUTSIDE;
        if (words.isEmpty()) return STATE;
        if (said.length() == 60) return FULL;
        said += (char) ('a' + letter);
        return heard(said, said.length());
    }

    int hush() {
        if (words.isEmpty()) return STATE;
        int before = said.length();
        said = "";
        return before;
    }

    private static String rowOf(int[] letters) {
        StringBuilder row = new StringBuilder();
        for (int letter : letters) {
            if (outside(letter, 0, 2)) return null;
            row.append((char) ('a' + letter));
        }
        return row.toString();
    }

    int row(int sheet, int lane, int i, int n, int what) {
        fault = 0;
        if (outside(sheet, 0, 3)) return UNKNOWN;
        if (outside(lane, 0, 2) || outside(n, 0, 40) || outside(what, 0, 3) && outside(what, 10, 13)) return OUTSIDE;
        int[] letters;
        try {
            letters = cells(sheet, lane, i, n);
        } catch (RuntimeException thrown) {
            return faultOf(thrown);
        }
        if (words.isEmpty()) return STATE;
        String row = rowOf(letters);
        if (row == null) return OUTSIDE;
        if (what == 0) return standing(row);
        if (what == 1) {
            for (int k = 0; k <= n; k++) if (standing(row.substring(0, k)) != 0) return k;
            return NONE;
        }
        if (what == 2) {
            for (int k = 0; k <= n; k++) if (hasAll(row.substring(0, k))) return k;
            return NONE;
        }
        if (what == 3) {
            int times = 0;
            for (Plain word : words) times += places(word, row);
            return times;
        }
        return noWord(what - 10) ? NONE : places(words.get(what - 10), row);
    }

    private boolean hasAll(String row) {
        for (Plain word : words) if (!stands(word, row)) return false;
        return true;
    }

    int over(int a, int b) {
        if (noWord(a) || noWord(b)) return UNKNOWN;
        return overlap(words.get(a).letters, words.get(b).letters);
    }

    private static int overlap(String a, String b) {
        int most = 0;
        for (int k = 1; k <= Math.min(a.length(), b.length()); k++) if (a.endsWith(b.substring(0, k))) most = k;
        return most;
    }

    /** Every shortest row is words laid one over another as far as they go, in some order and some forms. */
    private void layAll(String row, int left, String[] best) {
        if (left == 0) {
            if (best[0] == null || row.length() < best[0].length()
                || row.length() == best[0].length() && row.compareTo(best[0]) < 0) best[0] = row;
            return;
        }
        for (int w = 0; w < words.size(); w++) {
            if ((left >> w & 1) == 0) continue;
            for (String form : words.get(w).forms()) {
                String next = row.contains(form) ? row : row + form.substring(overlap(row, form));
                layAll(next, left & ~(1 << w), best);
            }
        }
    }

    int all(int k) {
        if (outside(k, -1, 15)) return OUTSIDE;
        if (words.isEmpty()) return STATE;
        String[] best = new String[1];
        layAll("", (1 << words.size()) - 1, best);
        if (k == -1) return best[0].length();
        return k < best[0].length() ? best[0].charAt(k) - 'a' : NONE;
    }

    /** Rows of n letters by what stands in them, in classes of like ends. */
    private Map<String, Long> classes(int n) {
        Map<String, Long> now = new HashMap<>();
        now.put("0 ", 1L);
        for (int k = 0; k < n; k++) {
            Map<String, Long> longer = new HashMap<>();
            for (Map.Entry<String, Long> one : now.entrySet()) {
                int gap = one.getKey().indexOf(' ');
                int set = Integer.parseInt(one.getKey().substring(0, gap));
                for (char c = 'a'; c <= 'c'; c++) {
                    String row = one.getKey().substring(gap + 1) + c;
                    String end = row.length() > 3 ? row.substring(row.length() - 3) : row;
                    longer.merge((set | standing(row)) + " " + end, one.getValue(), Long::sum);
                }
            }
            now = longer;
        }
        return now;
    }

    private long rowsWith(int n, int set) {
        long many = 0;
        for (Map.Entry<String, Long> one : classes(n).entrySet()) {
            if (one.getKey().startsWith(set + " ")) many += one.getValue();
        }
        return many;
    }

    long have(int n) {
        return outside(n, 0, 30) || words.isEmpty() ? LOST : rowsWith(n, (1 << words.size()) - 1);
    }

    long free(int n) {
        return outside(n, 0, 30) || words.isEmpty() ? LOST : rowsWith(n, 0);
    }

    int longest() {
        if (words.isEmpty()) return STATE;
        Set<String> ends = Set.of("");
        for (int n = 0; n < 100; n++) {
            Set<String> longer = new LinkedHashSet<>();
            for (String end : ends) {
                for (char c = 'a'; c <= 'c'; c++) {
                    String row = end + c;
                    if (standing(row) == 0) longer.add(row.length() > 3 ? row.substring(1) : row);
                }
            }
            if (longer.isEmpty()) return n;
            ends = longer;
        }
        return NONE;
    }

    int spare() {
        if (words.isEmpty()) return STATE;
        int set = 0;
        for (int w = 0; w < words.size(); w++) {
            for (int other = 0; other < words.size(); other++) {
                boolean each = other != w;
                for (String form : words.get(other).forms()) each &= stands(words.get(w), form);
                if (each) set |= 1 << w;
            }
        }
        return set;
    }

    int reading(int w, int sheet, int lane, int i, int n, int stands) {
        fault = 0;
        if (noWord(w) || outside(sheet, 0, 3)) return UNKNOWN;
        if (outside(lane, 0, 2) || outside(n, 0, 8) || outside(stands, 0, 1)) return OUTSIDE;
        int[] letters;
        try {
            letters = cells(sheet, lane, i, n);
        } catch (RuntimeException thrown) {
            return faultOf(thrown);
        }
        String row = rowOf(letters);
        if (row == null) return OUTSIDE;
        if (readings.size() == 8) return FULL;
        readings.add(new Heard(w, row, stands == 1));
        return readings.size() - 1;
    }

    int back(int n) {
        if (outside(n, 0, readings.size())) return OUTSIDE;
        readings = new ArrayList<>(readings.subList(0, readings.size() - n));
        return readings.size();
    }

    private boolean allSo() {
        for (Heard one : readings) if (stands(words.get(one.word()), one.row()) != one.stands()) return false;
        return true;
    }

    private boolean soWith(int w, Plain instead) {
        Plain before = words.set(w, instead);
        boolean so = allSo();
        words.set(w, before);
        return so;
    }

    int kinds(int w) {
        if (noWord(w)) return UNKNOWN;
        int set = 0;
        for (int kind = 0; kind < 3; kind++) if (soWith(w, make(kind, words.get(w).letters))) set |= 1 << kind;
        return set;
    }

    int lasts(int w) {
        if (noWord(w)) return UNKNOWN;
        int set = 0;
        Plain word = words.get(w);
        String ahead = word.letters.substring(0, word.letters.length() - 1);
        for (int last = 0; last < 3; last++) {
            if (soWith(w, make(kindOf(word), ahead + (char) ('a' + last)))) set |= 1 << last;
        }
        return set;
    }

    long odds(int n, int which) {
        if (outside(n, 0, 30) || outside(which, 0, 1) || words.isEmpty()) return LOST;
        long upper = have(n);
        long lower = 1;
        for (int k = 0; k < n; k++) lower *= 3;
        long a = upper;
        long b = lower;
        while (b != 0) {
            long rest = a % b;
            a = b;
            b = rest;
        }
        return which == 0 ? upper / a : lower / a;
    }

    int sheet(int k, int lane, int n) {
        fault = 0;
        if (outside(k, 0, 3)) return UNKNOWN;
        if (outside(lane, 0, 2) || n > 60) return OUTSIDE;
        try {
            sheets[k] = lane == 0 ? new byte[n] : lane == 1 ? new short[n] : new int[n];
            return 1;
        } catch (RuntimeException thrown) {
            return faultOf(thrown);
        }
    }

    int lose(int k) {
        if (outside(k, 0, 3)) return UNKNOWN;
        int had = sheets[k] == null ? 0 : 1;
        sheets[k] = null;
        return had;
    }

    int put(int k, int i, int v) {
        fault = 0;
        if (outside(k, 0, 3)) return UNKNOWN;
        try {
            if (sheets[k] instanceof byte[] bytes) bytes[i] = (byte) v;
            else if (sheets[k] instanceof short[] shorts) shorts[i] = (short) v;
            else ((int[]) sheets[k])[i] = v;
            return 1;
        } catch (RuntimeException thrown) {
            return faultOf(thrown);
        }
    }

    long cell(int k, int i, int lane) {
        fault = 0;
        if (outside(k, 0, 3) || outside(lane, 0, 2)) return LOST;
        try {
            return lane == 0 ? ((byte[]) sheets[k])[i] : lane == 1 ? ((short[]) sheets[k])[i] : ((int[]) sheets[k])[i];
        } catch (RuntimeException thrown) {
            faultOf(thrown);
            return LOST;
        }
    }

    int copy(int k, int i, int other, int j, int n) {
        fault = 0;
        if (outside(k, 0, 3) || outside(other, 0, 3)) return UNKNOWN;
        try {
            System.arraycopy(sheets[k], i, sheets[other], j, n);
            return n;
        } catch (RuntimeException thrown) {
            return faultOf(thrown);
        }
    }

    int tell(int w) {
        return noWord(w) ? UNKNOWN : words.get(w).telling(this);
    }

    int spelt(int w) {
        return noWord(w) ? UNKNOWN : words.get(w).spelling(this);
    }

    int as(int w, int kind) {
        fault = 0;
        if (noWord(w)) return UNKNOWN;
        if (outside(kind, 0, 2)) return OUTSIDE;
        try {
            Plain taken = words.get(w);
            if (kind == 1) taken = (Both) taken;
            if (kind == 2) taken = (Turned) taken;
            return taken == null ? 0 : 1;
        } catch (RuntimeException thrown) {
            return faultOf(thrown);
        }
    }

    int trace() {
        return trace;
    }

    int fault() {
        return fault;
    }

    int many(int what) {
        switch (what) {
            case 0: return words.size();
            case 1: return said.length();
            case 2: return standing(said);
            case 3: return readings.size();
            default: return OUTSIDE;
        }
    }
}
