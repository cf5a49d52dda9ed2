import java.io.IOException;
import java.lang.reflect.Constructor;
import java.lang.reflect.Field;
import java.lang.reflect.Method;
import java.lang.reflect.Modifier;
import java.nio.file.Files;
import java.nio.file.Path;
import java.util.ArrayList;
import java.util.Arrays;
import java.util.List;
import java.util.Set;
import java.util.TreeSet;
import java.util.regex.Matcher;
import java.util.regex.Pattern;

/** What of ../shared/LANGUAGE.md, and of the document's public face, can be seen from the classes and the text. */
public final class LanguageTest {
    private static final String[] FACE = {
        "int far(int, int, int)", "int moor(int)", "int count(int)", "int feed(int, int, int, int, int, int)",
        "int text()", "int force(int)", "int asks(int, int, int, int)", "int person(int, int, int, int)",
        "int foe(int, int, int)", "int told(int, int)", "int put(int, int)", "int may(int, int)", "int alone()",
        "int move(int, int, int)", "int clear()", "int judge()", "int run(int, int)", "int where(int, int)",
        "int all(int)", "int soonest(int)", "int never(int)", "int best(int, int)", "int bound()", "int gap()",
        "int way(int, int)", "int help(int)", "int laws()", "int join(int, int)", "int leave(int)", "int first()",
        "int drawn(int, int, int)", "long chance(int, int, int, int)", "int image()", "int back()",
        "int sheet(int, int, int)", "int cell(int, int, int)", "int copy(int, int, int, int, int)",
        "int peopleBy(int, int, int, int)", "int taken(int, int)"};
    private static final String[] CONSTANTS = {"NONE", "BAD", "STATE", "FULL", "NO"};
    private static final int MOST_FIELDS = 20, MOST_CLASSES = 12, MOST_LINES = 60, MOST_PARAMETERS = 7;

    private static int wrong = 0;

    public static void main(String[] args) throws IOException {
        face();
        Set<String> publicNames = new TreeSet<>();
        for (Method m : OneForOne.class.getDeclaredMethods()) {
            if (Modifier.isPublic(m.getModifiers())) {
                publicNames.add(m.getName());
            }
        }
        Class<?>[] inside = OneForOne.class.getDeclaredClasses();
        must(inside.length + 1 <= MOST_CLASSES, "rule 11: " + (inside.length + 1) + " classes");
        shape(OneForOne.class, publicNames);
        for (Class<?> c : inside) {
            int m = c.getModifiers();
            must(Modifier.isStatic(m) && !Modifier.isPublic(m) && !Modifier.isProtected(m), "rule 1, 2: " + c.getName());
            must(c.getDeclaredClasses().length == 0, "rule 2: a class inside " + c.getName());
            shape(c, publicNames);
        }
        source(Files.readString(Path.of("src/main/java/OneForOne.java")));
        System.out.println(wrong == 0 ? "the face and the language are as told" : wrong + " not as told");
        if (wrong > 0) {
            System.exit(1);
        }
    }

    private static void must(boolean good, String what) {
        if (!good) {
            wrong++;
            System.out.println(what);
        }
    }

    private static void face() {
        List<String> methods = new ArrayList<>();
        for (Method m : OneForOne.class.getDeclaredMethods()) {
            if (Modifier.isPrivate(m.getModifiers())) {
                continue;
            }
            List<String> types = new ArrayList<>();
            for (Class<?> p : m.getParameterTypes()) {
                types.add(p.getName());
            }
            must(m.getModifiers() == Modifier.PUBLIC, "rule 1: modifiers of " + m);
            methods.add(m.getReturnType() + " " + m.getName() + "(" + String.join(", ", types) + ")");
        }
        must(new TreeSet<>(methods).equals(new TreeSet<>(Arrays.asList(FACE))), "rule 1: the methods are " + methods);
        List<String> constants = new ArrayList<>();
        for (Field f : OneForOne.class.getDeclaredFields()) {
            if (!Modifier.isPrivate(f.getModifiers())) {
                must(Modifier.isPublic(f.getModifiers()) && Modifier.isStatic(f.getModifiers()), "rule 1: " + f);
                constants.add(f.getName());
            }
        }
        must(new TreeSet<>(constants).equals(new TreeSet<>(Arrays.asList(CONSTANTS))), "rule 1: " + constants);
        Constructor<?>[] made = OneForOne.class.getDeclaredConstructors();
        must(made.length == 1 && made[0].getParameterCount() == 0 && Modifier.isPublic(made[0].getModifiers()),
            "rule 1: the constructors");
        must(Modifier.isFinal(OneForOne.class.getModifiers()), "rule 1: the class is final");
    }

    private static void shape(Class<?> c, Set<String> publicNames) {
        int fields = 0;
        for (Field f : c.getDeclaredFields()) {
            if (Modifier.isStatic(f.getModifiers())) {
                must(Modifier.isFinal(f.getModifiers()), "rule 5: " + f);
            } else {
                fields++;
            }
        }
        must(fields <= MOST_FIELDS, "rule 11: " + fields + " fields in " + c.getName());
        for (Method m : c.getDeclaredMethods()) {
            boolean ofTheFace = c == OneForOne.class && Modifier.isPublic(m.getModifiers());
            must(ofTheFace || !publicNames.contains(m.getName()), "rule 1: " + m + " bears a public one's name");
            must(m.getParameterCount() <= MOST_PARAMETERS, "rule 11: " + m);
            must(!m.isSynthetic(), "rule 2: " + m + " is made by the compiler");
        }
    }

    private static void source(String text) {
        String code = text.replaceAll("(?s)/\\*.*?\\*/", " ").replaceAll("//[^\n]*", " ");
        String bare = code.replaceAll("\"[^\"]*\"", "\"\"").replaceAll("'[^']'", "0");
        String[] words = {"throw", "throws", "try", "catch", "synchronized", "assert", "package", "volatile", "native",
            "Exact", "getClass", "Thread", "Random", "currentTimeMillis", "nanoTime", "println", "lambda", "yield"};
        for (String word : words) {
            must(!Pattern.compile("\\b" + word + "\\b").matcher(bare).find(), "rule 6, 13: the word " + word);
        }
        must(!bare.contains("->") && !bare.contains("::"), "rule 2: a lambda or a method reference");
        must(!Pattern.compile("\\bwhile\\b").matcher(bare).find(), "rule 9: a loop without a counter");
        Matcher imports = Pattern.compile("import\\s+([^;]*);").matcher(bare);
        while (imports.find()) {
            must(imports.group(1).equals("java.util.Arrays"), "rule 4: import " + imports.group(1));
        }
        Matcher library = Pattern.compile("\\b(System|Arrays|Integer|Math|Long|String)\\.(\\w+)").matcher(bare);
        Set<String> allowed = Set.of("System.arraycopy", "Arrays.fill", "Integer.bitCount", "Math.abs", "Math.max", "Math.min");
        while (library.find()) {
            must(allowed.contains(library.group()), "rule 4: " + library.group());
        }
        for (int i = 0; i < text.length(); i++) {
            must(text.charAt(i) < 128, "rule 4: a sign above 127 at " + i);
        }
        methodLengths(text);
        rowsOnlyWhenMade(bare);
    }

    /** Methods stand at 4 or 8 blanks; each ends with a } at the same depth. */
    private static void methodLengths(String text) {
        String[] lines = text.split("\n");
        Pattern head = Pattern.compile("( {4}| {8})\\S.*\\) \\{");
        for (int i = 0; i < lines.length; i++) {
            Matcher m = head.matcher(lines[i]);
            if (!m.matches() || lines[i].trim().matches("(if|for|else|switch|\\}).*")) {
                continue;
            }
            int end = i;
            while (end < lines.length && !lines[end].equals(m.group(1) + "}")) {
                end++;
            }
            must(end - i < MOST_LINES, "rule 11: " + (end - i) + " lines from line " + (i + 1) + " on");
        }
    }

    /** The room of one run is small: objects and arrays are made with the object alone, not by its calls. */
    private static void rowsOnlyWhenMade(String bare) {
        for (String line : bare.split("\n")) {
            boolean made = Pattern.compile("\\bnew\\b").matcher(line).find();
            must(!made || line.contains("final ") || line.matches("\\s+(lawBook\\[t\\]|sheets\\[s\\]|reader|rules|search|trip) = new .*"),
                "rule 12: " + line.trim());
        }
    }
}
