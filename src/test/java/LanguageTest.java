import java.nio.file.Files;
import java.nio.file.Path;
import java.util.List;
import java.util.regex.Matcher;
import java.util.regex.Pattern;

/** The rules of LANGUAGE.md that a look at the program's text can tell. */
public final class LanguageTest {
    private static final String[] NEVER = {"\\bthrow\\b", "\\btry\\b", "\\bcatch\\b", "\\bsynchronized\\b", "\\bassert\\b", "->", "::",
        "\\bprotected\\b", "\\bstatic\\s*\\{", "^package\\b", "\\bdouble\\b", "\\bfloat\\b", "Exact\\b", "\\bSystem\\.(?!arraycopy)",
        "\\.(equals|hashCode|toString)\\(", "\"", "^import (?!java\\.util\\.Arrays;)"};
    private static final int LONGEST_METHOD = 60;
    /** What the interface says ahead of which calls, in the document's order. */
    private static final String[][] PARTS = {
        {"1 words", "words", "ofWord", "spell"}, {"2 rows", "say", "hush", "row"},
        {"3 all in one", "over", "all", "have", "free", "longest", "spare"},
        {"4 what was heard", "reading", "back", "kinds", "lasts", "odds"},
        {"5 sheets, parts", "sheet", "lose", "put", "cell", "copy", "tell", "spelt", "as", "trace", "fault", "many"}};
    private static int wrong = 0;

    public static void main(String[] args) throws Exception {
        String text = Files.readString(Path.of("src/main/java/OneLongRow.java"));
        String code = text.replaceAll("(?s)/\\*.*?\\*/", "").replaceAll("//[^\n]*", "");
        for (String pattern : NEVER) {
            Matcher m = Pattern.compile(pattern, Pattern.MULTILINE).matcher(code);
            if (m.find()) tell("the program has " + m.group());
        }
        for (int k = 0; k < text.length(); k++) {
            if (text.charAt(k) > 126) tell("a sign above 126 in place " + k);
        }
        methodsAreShort(text.split("\n"));
        partsAreInOrder(text);
        if (wrong != 0) System.exit(1);
    }

    private static void partsAreInOrder(String text) {
        int at = 0;
        for (String[] part : PARTS) {
            for (int k = 0; k < part.length; k++) {
                String due = k == 0 ? "// ---- " + part[0] + "\\n" : "public (int|long) " + part[k] + "\\(";
                Matcher m = Pattern.compile("^    " + due, Pattern.MULTILINE).matcher(text);
                if (m.find(at)) at = m.end();
                else tell(part[k] + " does not stand behind what the document has ahead of it");
            }
        }
    }

    private static void methodsAreShort(String[] lines) {
        for (String indent : List.of("    ", "        ")) {
            int begin = -1;
            for (int k = 0; k < lines.length; k++) {
                if (lines[k].matches(indent + "\\w.*\\) \\{")) begin = k;
                if (lines[k].equals(indent + "}") && begin >= 0) {
                    if (k - begin > LONGEST_METHOD) tell("a long method in line " + (begin + 1));
                    begin = -1;
                }
            }
        }
    }

    private static void tell(String what) {
        wrong++;
        System.out.println(what);
    }
}
