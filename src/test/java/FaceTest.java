import java.lang.reflect.Constructor;
import java.lang.reflect.Field;
import java.lang.reflect.Method;
import java.lang.reflect.Modifier;
import java.util.ArrayList;
import java.util.Collections;
import java.util.List;

/** The public face: just the members that the document tells. */
public final class FaceTest {
    private static final String[] DUE = {
        "all(int) int", "as(int,int) int", "back(int) int", "cell(int,int,int) long", "copy(int,int,int,int,int) int",
        "fault() int", "free(int) long", "have(int) long", "hush() int", "kinds(int) int", "lasts(int) int",
        "longest() int", "lose(int) int", "many(int) int", "odds(int,int) long", "ofWord(int,int) int",
        "over(int,int) int", "put(int,int,int) int", "reading(int,int,int,int,int,int) int",
        "row(int,int,int,int,int) int", "say(int) int", "sheet(int,int,int) int", "spare() int", "spell(int,int,int) int",
        "spelt(int) int", "tell(int) int", "trace() int", "words(int,int,int,int) int",
        "FULL int", "LOST long", "NONE int", "OUTSIDE int", "STATE int", "UNKNOWN int", "new()"
    };

    private static final List<Class<?>> CONSTANTS = List.of(int.class, long.class, boolean.class, char.class, String.class);
    private static final int MOST_CLASSES = 12;

    public static void main(String[] args) {
        List<String> due = new ArrayList<>(List.of(DUE));
        List<String> got = members();
        Collections.sort(due);
        Collections.sort(got);
        if (!due.equals(got)) {
            System.out.println("the face is " + got + ", due is " + due);
            System.exit(1);
        }
        Due d = new Due("constants");
        withinTheRules(d, OneLongRow.class);
        for (Class<?> inside : OneLongRow.class.getDeclaredClasses()) {
            d.due(inside + " is static", Modifier.isStatic(inside.getModifiers()) ? 1 : 0, 1);
            d.due(inside + " is not public", Modifier.isPublic(inside.getModifiers()) ? 1 : 0, 0);
            withinTheRules(d, inside);
        }
        d.due("few classes", OneLongRow.class.getDeclaredClasses().length < MOST_CLASSES ? 1 : 0, 1);
        d.due("the class is public and final", OneLongRow.class.getModifiers() & (Modifier.PUBLIC | Modifier.FINAL), Modifier.PUBLIC | Modifier.FINAL);
        d.due("UNKNOWN", OneLongRow.UNKNOWN, -1);
        d.due("OUTSIDE", OneLongRow.OUTSIDE, -2);
        d.due("STATE", OneLongRow.STATE, -3);
        d.due("FULL", OneLongRow.FULL, -4);
        d.due("NONE", OneLongRow.NONE, -9);
        d.due("LOST", OneLongRow.LOST, Long.MIN_VALUE);
        Due.end();
    }

    /** LANGUAGE.md, rules 1, 5 and 11: names of the face, parameters, fields. */
    private static void withinTheRules(Due d, Class<?> one) {
        int fields = 0;
        for (Field f : one.getDeclaredFields()) {
            if (!Modifier.isStatic(f.getModifiers())) fields++;
            else d.due(f + " is a constant", Modifier.isFinal(f.getModifiers()) && CONSTANTS.contains(f.getType()) ? 1 : 0, 1);
        }
        d.due(one + " has few fields", fields <= 20 ? 1 : 0, 1);
        for (Method m : one.getDeclaredMethods()) {
            d.due(m + " has few parameters", m.getParameterCount() <= 7 ? 1 : 0, 1);
            boolean isOfFace = one == OneLongRow.class && Modifier.isPublic(m.getModifiers());
            for (String due : DUE) {
                boolean bearsName = due.startsWith(m.getName() + "(");
                d.due(m + " bears no name of the face", bearsName && !isOfFace ? 1 : 0, 0);
            }
        }
    }

    private static List<String> members() {
        List<String> got = new ArrayList<>();
        for (Method m : OneLongRow.class.getDeclaredMethods()) {
            if (!Modifier.isPrivate(m.getModifiers())) {
                got.add(m.getName() + parameters(m.getParameterTypes()) + " " + m.getReturnType().getName());
            }
        }
        for (Field f : OneLongRow.class.getDeclaredFields()) {
            if (!Modifier.isPrivate(f.getModifiers())) {
                got.add(f.getName() + " " + f.getType().getName());
            }
        }
        for (Constructor<?> c : OneLongRow.class.getDeclaredConstructors()) {
            got.add("new" + parameters(c.getParameterTypes()));
        }
        return got;
    }

    private static String parameters(Class<?>[] types) {
        List<String> names = new ArrayList<>();
        for (Class<?> type : types) {
            names.add(type.getName());
        }
        return "(" + String.join(",", names) + ")";
    }
}
