import java.lang.reflect.Method;
import java.lang.reflect.Modifier;
import java.net.URL;
import java.net.URLClassLoader;
import java.nio.file.Files;
import java.nio.file.Path;
import java.util.regex.Matcher;
import java.util.regex.Pattern;
import javax.tools.ToolProvider;

/** README.md's example is compiled and run: each call with a number behind it answers that number. */
public final class ReadmeTest {
    private static final Pattern EXAMPLE = Pattern.compile("```java\n(.*?)```", Pattern.DOTALL);
    private static final Pattern ANSWERED = Pattern.compile("^(x\\.\\w+\\(.*\\)); *// (-?\\d+)", Pattern.MULTILINE);
    private static final int FEWEST_ANSWERS = 20;

    public static void main(String[] args) throws Exception {
        String readme = Files.readString(Path.of("README.md"));
        Matcher example = EXAMPLE.matcher(readme);
        if (!example.find()) fail("README.md has no example");
        Matcher answered = ANSWERED.matcher(example.group(1));
        if (answered.results().count() < FEWEST_ANSWERS) fail("README.md tells few answers");
        String wrong = wrongIn(answered.replaceAll("wrong += due(\"$1\", $1, $2); // $2"));
        if (!wrong.isEmpty()) fail(wrong);
        for (Method m : OneLongRow.class.getDeclaredMethods()) {
            boolean isOfFace = Modifier.isPublic(m.getModifiers());
            if (isOfFace && !readme.contains("`" + m.getName())) fail("README.md does not name " + m.getName());
        }
        if (!readme.contains(".ci/run")) fail("README.md does not tell how tests are run");
    }

    /** What is wrong with the example, or nothing. */
    private static String wrongIn(String body) throws Exception {
        Path out = Files.createTempDirectory("readme");
        Path file = out.resolve("Example.java");
        try {
            Files.writeString(file, "public final class Example {\n"
                + "static int due(String call, long got, long want) { if (got == want) return 0;\n"
                + "System.out.println(\"README.md: \" + call + \" answered \" + got + \", told is \" + want); return 1; }\n"
                + "public static int wrong() {\nint wrong = 0;\n" + body + "\nreturn wrong;\n}\n}\n");
            int failed = ToolProvider.getSystemJavaCompiler().run(null, null, null,
                "-cp", System.getProperty("java.class.path"), "-d", out.toString(), file.toString());
            if (failed != 0) return "README.md's example does not compile";
            try (URLClassLoader loader = new URLClassLoader(new URL[] {out.toUri().toURL()})) {
                Object wrong = loader.loadClass("Example").getMethod("wrong").invoke(null);
                return wrong.equals(0) ? "" : "README.md tells " + wrong + " wrong answers";
            }
        } finally {
            Files.deleteIfExists(out.resolve("Example.class"));
            Files.deleteIfExists(file);
            Files.deleteIfExists(out);
        }
    }

    private static void fail(String what) {
        System.out.println(what);
        System.exit(1);
    }
}
