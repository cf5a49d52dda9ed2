import java.io.IOException;
import java.lang.reflect.Constructor;
import java.lang.reflect.Field;
import java.lang.reflect.Method;
import java.lang.reflect.Modifier;
import java.nio.file.Files;
import java.nio.file.Path;
import java.util.ArrayList;
import java.util.Arrays;
import java.util.List;
import java.util.Set;
import java.util.TreeSet;
import java.util.regex.Matcher;
import java.util.regex.Pattern;

/** What of ../shared/LANGUAGE.md, and of the document's public face, can be seen from the classes and the text. */
public final class LanguageTest {
    private static final String[] FACE = {
        "int far(int, int, int)", "int moor(int)", "int count(int)", "int feed(int, int, int, int, int, int)",
        "int text()", "int force(int)", "int asks(int, int, int, int)", "int person(int, int, int, int)",
        "int foe(int, int, int)", "int told(int, int)", "int put(int, int)", "int may(int, int)", "int alone()",
        "int move(int, int, int)", "int clear()", "int judge()", "int run(int, int)", "int where(int, int)",
        "int all(int)", "int soonest(int)", "int never(int)", "int best(int, int)", "int bound()", "int gap()",
        "int way(int, int)", "int help(int)", "int laws()", "int join(int, int)", "int leave(int)", "int first()",
        "int drawn(int, int, int)", "long chance(int, int, int, int)", "int image()", "int back()",
        "int sheet(int, int, int)", "int cell(int, int, int)", "int copy(int, int, int, int, int)",
        "int peopleBy(int, int, int, int)", "int taken(int, int)"};
    private static final String[] CONSTANTS = {"NONE", "BAD", "STATE", "FULL", "NO"};
    // Where the rules say 'some', a tenth more is let through.
    private static final int MOST_FIELDS = 22, MOST_CLASSES = 13, MOST_LINES = 66, MOST_PARAMETERS = 7;
    // A run's room holds 7.3 million fields and elements, of four bytes at least.
    private static final long MOST_BYTES = 4 * 7_300_000L;

    private static int wrong = 0;

    public static void main(String[] args) throws IOException {
        face();
        Set<String> publicNames = new TreeSet<>();
        for (Method m : OneForOne.class.getDeclaredMethods()) {
            if (Modifier.isPublic(m.getModifiers())) {
                publicNames.add(m.getName());
            }
        }
        shape(OneForOne.class, publicNames);
        int classes = 1 + inside(OneForOne.class, publicNames);
        must(classes <= MOST_CLASSES, "rule 11: " + classes + " classes");
        source(Files.readString(Path.of("src/main/java/OneForOne.java")));
        room();
        System.out.println(wrong == 0 ? "the face and the language are as told" : wrong + " not as told");
        if (wrong > 0) {
            System.exit(1);
        }
    }

    /** How many classes are inside; each of them is looked at. */
    private static int inside(Class<?> outer, Set<String> publicNames) {
        int classes = 0;
        for (Class<?> c : outer.getDeclaredClasses()) {
            int m = c.getModifiers();
            must(Modifier.isStatic(m) && !Modifier.isPublic(m) && !Modifier.isProtected(m), "rule 1, 2: " + c.getName());
            shape(c, publicNames);
            classes += 1 + inside(c, publicNames);
        }
        return classes;
    }

    private static void must(boolean good, String what) {
        if (!good) {
            wrong++;
            System.out.println(what);
        }
    }

    private static void face() {
        List<String> methods = new ArrayList<>();
        for (Method m : OneForOne.class.getDeclaredMethods()) {
            if (Modifier.isPrivate(m.getModifiers())) {
                continue;
            }
            List<String> types = new ArrayList<>();
            for (Class<?> p : m.getParameterTypes()) {
                types.add(p.getName());
            }
            must(m.getModifiers() == Modifier.PUBLIC, "rule 1: modifiers of " + m);
            methods.add(m.getReturnType() + " " + m.getName() + "(" + String.join(", ", types) + ")");
        }
        must(new TreeSet<>(methods).equals(new TreeSet<>(Arrays.asList(FACE))), "rule 1: the methods are " + methods);
        List<String> constants = new ArrayList<>();
        for (Field f : OneForOne.class.getDeclaredFields()) {
            if (!Modifier.isPrivate(f.getModifiers())) {
                must(Modifier.isPublic(f.getModifiers()) && Modifier.isStatic(f.getModifiers()), "rule 1: " + f);
                constants.add(f.getName());
            }
        }
        must(new TreeSet<>(constants).equals(new TreeSet<>(Arrays.asList(CONSTANTS))), "rule 1: " + constants);
        Constructor<?>[] made = OneForOne.class.getDeclaredConstructors();
        must(made.length == 1 && made[0].getParameterCount() == 0 && Modifier.isPublic(made[0].getModifiers()),
            "rule 1: the constructors");
        must(Modifier.isFinal(OneForOne.class.getModifiers()), "rule 1: the class is final");
    }

    private static void shape(Class<?> c, Set<String> publicNames) {
        int fields = 0;
        for (Field f : c.getDeclaredFields()) {
            if (Modifier.isStatic(f.getModifiers())) {
                must(Modifier.isFinal(f.getModifiers()), "rule 5: " + f);
            } else {
                fields++;
            }
        }
        must(fields <= MOST_FIELDS, "rule 11: " + fields + " fields in " + c.getName());
        for (Method m : c.getDeclaredMethods()) {
            boolean hidden = Modifier.isPrivate(m.getModifiers());
            must(!hidden || !publicNames.contains(m.getName()), "rule 1: " + m + " bears a public one's name");
            must(m.getParameterCount() <= MOST_PARAMETERS, "rule 11: " + m);
            must(!m.getName().startsWith("lambda$"), "rule 2: " + m);
        }
    }

    private static void source(String text) {
        String code = text.replaceAll("(?s)/\\*.*?\\*/", " ").replaceAll("//[^\n]*", " ");
        String bare = code.replaceAll("\"[^\"]*\"", "\"\"").replaceAll("'[^']'", "0");
        String[] words = {"throw", "throws", "try", "catch", "synchronized", "assert", "package", "volatile", "native",
            "equals\\s*\\(\\s*Object", "hashCode", "getClass", "Thread", "Random", "currentTimeMillis", "nanoTime", "println",
            "getProperty", "getenv", "File", "Object"};
        for (String word : words) {
            must(!Pattern.compile("\\b" + word + "\\b").matcher(bare).find(), "rule 3, 6, 13: the word " + word);
        }
        must(!bare.contains("::"), "rule 2: a method reference");
        for (String line : bare.split("\n")) {
            must(!line.contains("->") || line.trim().matches("(case\\b.*|default\\s*)->.*"), "rule 2: a lambda: " + line.trim());
        }
        Matcher imports = Pattern.compile("import\\s+([^;]*);").matcher(bare);
        while (imports.find()) {
            must(imports.group(1).matches("java\\.util\\.(Arrays|ArrayList|List|Iterator)"), "rule 4: import " + imports.group(1));
        }
        Matcher library = Pattern.compile("\\b(System|Arrays|Integer|Math|Long|String|List)\\.(\\w+)").matcher(bare);
        while (library.find()) {
            must(isAllowed(library.group(1), library.group(2)), "rule 4: " + library.group());
        }
        for (int i = 0; i < code.length(); i++) {
            must(code.charAt(i) < 128, "rule 4: a sign above 127 at " + i);
        }
        methodLengths(text);
    }

    private static boolean isAllowed(String library, String name) {
        return switch (library) {
            case "System" -> name.equals("arraycopy");
            case "Arrays" -> Set.of("copyOf", "copyOfRange", "fill").contains(name);
            case "List" -> name.equals("of");
            case "String" -> false;
            case "Math" -> Set.of("max", "min", "abs", "floorDiv", "floorMod", "clamp", "ceilDiv").contains(name);
            default -> !name.endsWith("Exact") && !name.startsWith("parse") && !name.startsWith("to") && !name.startsWith("value");
        };
    }

    /** Methods stand at 4 or 8 blanks; each ends with a } at the same depth. */
    private static void methodLengths(String text) {
        String[] lines = text.split("\n");
        Pattern head = Pattern.compile("( {4}| {8})\\S.*\\) \\{");
        for (int i = 0; i < lines.length; i++) {
            Matcher m = head.matcher(lines[i]);
            if (!m.matches() || lines[i].trim().matches("(if|for|else|while|do|switch|\\}).*")) {
                continue;
            }
            int end = i;
            while (end < lines.length && !lines[end].equals(m.group(1) + "}")) {
                end++;
            }
            must(end - i < MOST_LINES, "rule 11: " + (end - i) + " lines from line " + (i + 1) + " on");
        }
    }

    // ---- the room of a run

    /** What the dearest calls make, 500 of each on one object: rows made once and used again keep it small. */
    private static void room() {
        String[] names = {"all(0)", "all(1)", "all(2)", "help(1)", "laws", "join", "leave", "first", "best", "never", "gap",
            "drawn", "chance", "run", "text", "image, back"};
        for (int k = 0; k < names.length; k++) {
            OneForOne x = busy(names[k].equals("help(1)") ? 5 : 6);
            long before = madeBytes();
            int calls = k == 14 ? 80 : 480;
            for (int call = 0; call < calls; call++) {
                make(x, k, call);
            }
            long made = madeBytes() - before;
            must(made < MOST_BYTES, "rule 12: " + calls + " calls of " + names[k] + " made " + made + " bytes");
        }
    }

    private static long madeBytes() {
        java.lang.management.ThreadMXBean bean = java.lang.management.ManagementFactory.getThreadMXBean();
        return bean instanceof com.sun.management.ThreadMXBean known ? known.getCurrentThreadAllocatedBytes() : 0;
    }

    /** As many STATES as can be: in each place somebody, two ABOARD, if there are six; never are ALL THERE. */
    private static OneForOne busy(int people) {
        OneForOne x = new OneForOne();
        for (int p = 0; p < people; p++) {
            x.person(0, p < 4 ? 10 * p : 40, 100, 0);
        }
        x.move(0, 1, 0);
        x.move(1, 4, 1);
        return x;
    }

    private static void make(OneForOne x, int k, int call) {
        x.moor(call % 4);
        switch (k) {
            case 0, 1, 2 -> x.all(k);
            case 3 -> x.help(1);
            case 4 -> x.laws();
            case 5 -> x.join(0, 3);
            case 6 -> x.leave(1);
            case 7 -> x.first();
            case 8 -> x.best(400, 0);
            case 9 -> x.never(1);
            case 10 -> x.gap();
            case 11 -> x.drawn(call, 40, 1);
            case 12 -> x.chance(0, call, 2040, 0);
            case 13 -> x.run(2, 3);
            case 14 -> {
                x.feed(5, 'm', 'a', 'y', ' ', '(');
                x.text();
            }
            default -> {
                x.image();
                x.back();
            }
        }
    }
}
