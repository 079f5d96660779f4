import java.lang.reflect.Constructor;
import java.lang.reflect.Field;
import java.lang.reflect.Method;
import java.lang.reflect.Modifier;
import java.nio.file.Files;
import java.nio.file.Path;
import java.util.ArrayList;
import java.util.List;
import java.util.Set;
import java.util.TreeSet;
import java.util.regex.Pattern;

/** The rules of LANGUAGE.md that can be seen from the source's text and from the compiled class. */
public final class LanguageRulesTest {
    private static final String[] FACE = {
        "int move(int,int)", "int order(int,int,int)", "int set(int,int,int)", "int told(int,int)", "int lives(int)",
        "int sends(int,int,int)", "int feed(int)", "int text()", "int force(int)", "int letter(int,int,int)",
        "int reaches(int,int)", "int needless(int,int)", "int oneMore(int,int,int)", "int thicker(int)", "int covers(int,int)",
        "int film(int,int,int)", "int drawn(int,int)", "long chance(int,int,int,int,int)", "int image()", "int back()",
        "int count(int)", "int sheet(int,int,int)", "int cell(int,int,int)", "int copy(int,int,int,int,int)",
        "int orders(int,int,int,int)", "int taken(int,int)",
    };
    private static final String[] CONSTANTS = {"int NONE", "int BAD", "int STATE", "int FULL", "long NO"};
    private static int wrong = 0;

    private static void must(boolean is, String what) {
        if (!is) {
            wrong++;
            System.out.println("rule: " + what);
        }
    }

    public static void main(String[] args) throws Exception {
        face();
        List<Class<?>> classes = new ArrayList<>();
        classes.add(ThreeAddresses.class);
        for (Class<?> c : ThreeAddresses.class.getDeclaredClasses()) {
            must(Modifier.isStatic(c.getModifiers()) && !Modifier.isPublic(c.getModifiers()), "2: " + c + " is static and not public");
            classes.add(c);
        }
        must(classes.size() <= 12, "11: at most twelve classes");
        for (Class<?> c : classes) {
            members(c);
        }
        source(Files.readString(Path.of("src/main/java/ThreeAddresses.java")));
        System.out.println("language rules: " + classes.size() + " classes, " + wrong + " wrong");
        if (wrong != 0) {
            System.exit(1);
        }
    }

    private static void face() {
        Class<?> c = ThreeAddresses.class;
        must(Modifier.isPublic(c.getModifiers()) && Modifier.isFinal(c.getModifiers()), "1: public and final");
        Set<String> want = new TreeSet<>(List.of(FACE));
        Set<String> got = new TreeSet<>();
        for (Method m : c.getDeclaredMethods()) {
            if (!Modifier.isPrivate(m.getModifiers())) {
                must(Modifier.isPublic(m.getModifiers()) && !Modifier.isStatic(m.getModifiers()), "1: " + m);
                got.add(m.toString().replaceAll("public |ThreeAddresses\\.", ""));
            }
        }
        must(want.equals(got), "1: the face is " + got);
        Set<String> constants = new TreeSet<>();
        for (Field f : c.getDeclaredFields()) {
            if (!Modifier.isPrivate(f.getModifiers())) {
                constants.add(f.toString().replaceAll("public static final |ThreeAddresses\\.", ""));
            }
        }
        must(constants.equals(new TreeSet<>(List.of(CONSTANTS))), "1: the constants are " + constants);
        Constructor<?>[] made = c.getDeclaredConstructors();
        must(made.length == 1 && made[0].getParameterCount() == 0 && Modifier.isPublic(made[0].getModifiers()), "1: the constructor");
    }

    private static void members(Class<?> c) {
        Set<String> face = new TreeSet<>();
        for (String f : FACE) {
            face.add(f.replaceAll(".* (\\w+)\\(.*", "$1"));
        }
        int fields = 0;
        for (Field f : c.getDeclaredFields()) {
            if (Modifier.isStatic(f.getModifiers())) {
                must(Modifier.isFinal(f.getModifiers()), "5: " + f + " is final");
            } else {
                fields++;
            }
        }
        must(fields <= 20, "11: the fields of " + c);
        for (Method m : c.getDeclaredMethods()) {
            must(m.getParameterCount() <= 7, "11: the parameters of " + m);
            boolean own = c == ThreeAddresses.class && Modifier.isPublic(m.getModifiers());
            must(own || !face.contains(m.getName()), "1: " + m + " bears a public name");
        }
    }

    private static void source(String text) {
        String bare = text.replaceAll("(?s)/\\*.*?\\*/", "").replaceAll("//[^\n]*", "")
            .replaceAll("\"[^\"\n]*\"", "\"\"").replaceAll("'(\\\\.|[^'])'", "0");
        String[] words = {
            "throw", "throws", "try", "catch", "finally", "synchronized", "assert", "import", "package", "volatile", "native", "var",
            "hashCode", "toString", "Object", "System.in", "System.out", "Exception", "Error",
        };
        for (String word : words) {
            must(!Pattern.compile("\\b" + Pattern.quote(word) + "\\b").matcher(bare).find(), "no " + word);
        }
        must(!bare.contains("->") && !bare.contains("::") && !bare.contains("@"), "2: no lambda, no method reference");
        must(!Pattern.compile("static\\s*\\{").matcher(bare).find(), "5: no static initialiser block");
        for (int i = 0; i < text.length(); i++) {
            must(text.charAt(i) < 128, "4: a sign above 127");
        }
        lengths(bare);
    }

    /** A method begins at a line that ends with ") {" at a member's depth, and ends where its depth does. */
    private static void lengths(String bare) {
        int depth = 0;
        int began = -1;
        int at = 0;
        int line = 0;
        for (String row : bare.split("\n")) {
            line++;
            boolean head = row.matches("\\s*(public|private|static|final|void|int|long|boolean|String|\\w+\\s*\\().*\\) \\{");
            if (began < 0 && head && !row.matches("\\s*(if|for|while|switch)\\b.*")) {
                began = line;
                at = depth;
            }
            for (char c : row.toCharArray()) {
                depth += c == '{' ? 1 : c == '}' ? -1 : 0;
            }
            if (began >= 0 && depth == at) {
                must(line - began < 60, "11: the method at line " + began + " is long");
                began = -1;
            }
        }
        must(depth == 0, "the braces");
    }
}
