import java.io.File;
import java.io.PrintWriter;
import java.io.StringWriter;
import java.util.ArrayList;
import java.util.List;
import java.util.Map;
import java.util.Set;
import java.util.TreeMap;
import java.util.TreeSet;
import java.util.regex.Matcher;
import java.util.regex.Pattern;
import java.util.spi.ToolProvider;

/** The rules of LANGUAGE.md that can be seen from the class's bytecode, as the host's own javap tells it. */
public final class CompiledRulesTest {
    // Of what rule 4 lists only what the class needs; add here what it comes to need, if rule 4 has it.
    private static final Set<String> LIBRARY = Set.of(
        "java/lang/Object.<init>:()V", "java/lang/String.length:()I", "java/lang/String.charAt:(I)C",
        "java/lang/Integer.bitCount:(I)I", "java/lang/Math.min:(II)I", "java/lang/Math.max:(II)I",
        "java/lang/System.arraycopy:(Ljava/lang/Object;ILjava/lang/Object;II)V");
    private static final Set<String> FORBIDDEN = Set.of(
        "athrow", "monitorenter", "monitorexit", "invokedynamic", "invokeinterface", "fdiv", "ddiv", "frem", "drem");
    private static final Set<String> MAKING = Set.of("new", "newarray", "anewarray", "multianewarray");

    private static final Pattern HEAD = Pattern.compile("  (?:[\\w$.\\[\\] ]+ )?([\\w$]+)\\(.*\\);");
    private static final Pattern DESCRIPTOR = Pattern.compile("    descriptor: (\\(.*)");
    private static final Pattern STEP = Pattern.compile(" +\\d+: (\\w+).*");
    private static final Pattern CALLED = Pattern.compile("// (?:Interface)?Method (\\S+)$");

    private static final Map<String, Set<String>> calls = new TreeMap<>();
    private static final Map<String, Set<String>> reached = new TreeMap<>();
    private static int wrong = 0;

    public static void main(String[] args) throws Exception {
        for (String name : classNames()) {
            readClass(name);
        }
        must(calls.containsKey("ThreeAddresses.move:(II)I"), "the bytecode can't be read");
        for (String method : new ArrayList<>(calls.keySet())) {
            reached.put(method, reachedFrom(method));
        }
        int deepest = 0;
        for (String method : calls.keySet()) {
            int deep = depth(method);
            deepest = Math.max(deepest, deep);
            must(deep <= 8, "11: calls of " + method + " go " + deep + " deep");
            for (String called : calls.get(method)) {
                must(calls.containsKey(called) || LIBRARY.contains(called), "4: " + method + " calls " + called);
            }
        }
        System.out.println("compiled rules: " + calls.size() + " methods, calls " + deepest + " deep, " + wrong + " wrong");
        if (wrong != 0) {
            System.exit(1);
        }
    }

    private static void must(boolean is, String what) {
        if (!is) {
            wrong++;
            System.out.println("rule: " + what);
        }
    }

    private static List<String> classNames() throws Exception {
        File classes = new File(CompiledRulesTest.class.getProtectionDomain().getCodeSource().getLocation().toURI());
        List<String> names = new ArrayList<>();
        for (File file : classes.listFiles()) {
            if (file.getName().matches("ThreeAddresses(\\$.*)?\\.class")) {
                names.add(file.getPath());
            }
        }
        return names;
    }

    private static void readClass(String path) {
        StringWriter out = new StringWriter();
        PrintWriter to = new PrintWriter(out);
        ToolProvider.findFirst("javap").orElseThrow().run(to, to, "-c", "-p", "-s", path);
        String owner = new File(path).getName().replace(".class", "");
        String name = "";
        String method = "";
        for (String row : out.toString().split("\n")) {
            Matcher head = HEAD.matcher(row);
            Matcher descriptor = DESCRIPTOR.matcher(row);
            if (head.matches()) {
                name = head.group(1).equals(owner) ? "<init>" : head.group(1);
            } else if (descriptor.matches()) {
                method = owner + "." + name + ":" + descriptor.group(1);
                calls.put(method, new TreeSet<>());
            } else {
                readRow(owner, method, row);
            }
        }
    }

    private static void readRow(String owner, String method, String row) {
        must(!row.contains("Exception table"), "6: " + method + " catches");
        must(!row.contains("static {}"), "5: a static initialiser in " + owner);
        Matcher step = STEP.matcher(row);
        if (!step.matches() || !calls.containsKey(method)) {
            return;
        }
        must(!FORBIDDEN.contains(step.group(1)), "6: " + method + " has " + step.group(1));
        // Stricter than rule 12: what only constructors make needs no counting of calls.
        must(!MAKING.contains(step.group(1)) || method.contains(".<init>:"), "12: " + method + " makes something");
        Matcher called = CALLED.matcher(row);
        if (called.find()) {
            String plain = called.group(1).replace("\"", "");
            calls.get(method).add(plain.substring(0, plain.indexOf(':')).contains(".") ? plain : owner + "." + plain);
        }
    }

    private static Set<String> reachedFrom(String method) {
        Set<String> found = new TreeSet<>();
        List<String> open = new ArrayList<>(List.of(method));
        while (!open.isEmpty()) {
            for (String called : calls.getOrDefault(open.remove(open.size() - 1), Set.of())) {
                if (found.add(called)) {
                    open.add(called);
                }
            }
        }
        return found;
    }

    private static boolean callOneAnother(String a, String b) {
        return reached.containsKey(a) && reached.containsKey(b) && reached.get(a).contains(b) && reached.get(b).contains(a);
    }

    /** How many calls stand open at once, the library's too; methods that call one another are one of these, together. */
    private static int depth(String method) {
        int below = 0;
        for (String member : calls.keySet()) {
            if (member.equals(method) || callOneAnother(member, method)) {
                for (String called : calls.get(member)) {
                    if (!callOneAnother(called, method)) {
                        below = Math.max(below, depth(called));
                    }
                }
            }
        }
        return below + 1;
    }
}
