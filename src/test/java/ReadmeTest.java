import java.lang.reflect.Method;
import java.lang.reflect.Modifier;
import java.nio.file.Files;
import java.nio.file.Path;
import java.util.regex.Matcher;
import java.util.regex.Pattern;
import javax.tools.ToolProvider;

/** The examples of README.md, compiled and run as they stand there; and that it names every call. */
public final class ReadmeTest {
    private static final Pattern BLOCK = Pattern.compile("(?s)```java\n(.*?)```");
    private static final Pattern CALL = Pattern.compile("(?m)^(x\\.[^;]*);\\s*// (-?\\d+)\\b.*$");
    private static int asked = 0;
    private static int wrong = 0;

    public static void main(String[] args) throws Exception {
        String page = Files.readString(Path.of("README.md"));
        for (Method m : ThreeAddresses.class.getDeclaredMethods()) {
            if (Modifier.isPublic(m.getModifiers())) {
                must(page.contains("`" + m.getName() + "`"), "README.md does not name " + m.getName());
            }
        }
        runExamples(page);
        must(asked > 0, "README.md has no examples");
        System.out.println("readme: " + asked + " answers, " + wrong + " wrong");
        if (wrong != 0) {
            System.exit(1);
        }
    }

    private static void must(boolean is, String what) {
        if (!is) {
            wrong++;
            System.out.println(what);
        }
    }

    /** Called by what is made of the examples. */
    static void due(String call, long got, long want) {
        asked++;
        must(got == want, "README.md: " + call + " answered " + got + ", the page says " + want);
    }

    private static void runExamples(String page) throws Exception {
        StringBuilder source = new StringBuilder("final class ReadmeExamples { static void run() {\n");
        Matcher blocks = BLOCK.matcher(page);
        while (blocks.find()) {
            Matcher calls = CALL.matcher(blocks.group(1));
            source.append("{\n").append(calls.replaceAll("ReadmeTest.due(\"$1\", $1, $2L);")).append("}\n");
        }
        source.append("} }\n");
        Path classes = Path.of(ReadmeTest.class.getProtectionDomain().getCodeSource().getLocation().toURI());
        Path file = classes.resolve("ReadmeExamples.java");
        Files.writeString(file, source);
        int failed = ToolProvider.getSystemJavaCompiler()
            .run(null, null, null, "-cp", classes.toString(), "-d", classes.toString(), file.toString());
        must(failed == 0, "the examples of README.md can't be compiled");
        if (failed == 0) {
            Method run = Class.forName("ReadmeExamples").getDeclaredMethod("run");
            run.setAccessible(true);
            run.invoke(null);
        }
    }
}
