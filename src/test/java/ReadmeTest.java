import java.io.IOException;
import java.lang.reflect.Method;
import java.lang.reflect.Modifier;
import java.nio.file.Files;
import java.nio.file.Path;
import java.util.ArrayList;
import java.util.List;
import java.util.regex.Matcher;
import java.util.regex.Pattern;

/** README.md's examples are what the class answers: each line 'lake.call(numbers); // answer: ..' is done as it stands. */
public final class ReadmeTest {
    private static final Pattern CALL = Pattern.compile("lake\\.(\\w+)\\(([-0-9, ]*)\\);\\s*// (-?\\d+)\\b.*");
    private static final Pattern LAW = Pattern.compile("for \\(char c : \"([^\"]*)\"\\.toCharArray\\(\\)\\) \\{");
    private static final Pattern FORCE = Pattern.compile("lake\\.force\\(lake\\.text\\(\\)\\);\\s*// (-?\\d+)\\b.*");

    private static int examples = 0;
    private static int wrong = 0;

    public static void main(String[] args) throws IOException {
        String readme = Files.readString(Path.of("README.md"));
        OneForOne lake = new OneForOne();
        for (String line : javaLines(readme)) {
            example(lake, line.trim());
        }
        must(examples >= 10, "only " + examples + " examples");
        for (Method m : OneForOne.class.getDeclaredMethods()) {
            if (Modifier.isPublic(m.getModifiers())) {
                must(readme.contains("`" + m.getName() + "`"), m.getName() + " isn't named");
            }
        }
        System.out.println(examples + " examples, " + wrong + " wrong");
        if (wrong > 0) {
            System.exit(1);
        }
    }

    private static List<String> javaLines(String readme) {
        List<String> lines = new ArrayList<>();
        boolean in = false;
        for (String line : readme.split("\n")) {
            if (line.startsWith("```")) {
                in = line.equals("```java");
            } else if (in) {
                lines.add(line);
            }
        }
        return lines;
    }

    private static void example(OneForOne lake, String line) {
        Matcher call = CALL.matcher(line);
        Matcher law = LAW.matcher(line);
        Matcher force = FORCE.matcher(line);
        if (call.matches()) {
            due(line, answer(lake, call.group(1), call.group(2)), Long.parseLong(call.group(3)));
        } else if (law.matches()) {
            for (char c : law.group(1).toCharArray()) {
                lake.feed(1, c, 0, 0, 0, 0);
            }
        } else if (force.matches()) {
            due(line, lake.force(lake.text()), Long.parseLong(force.group(1)));
        } else {
            boolean known = line.equals("OneForOne lake = new OneForOne();") || line.equals("}")
                || line.equals("lake.feed(1, c, 0, 0, 0, 0);");
            must(known, "no example: " + line);
        }
    }

    private static long answer(OneForOne lake, String name, String numbers) {
        String[] parts = numbers.isEmpty() ? new String[0] : numbers.split(", ");
        Class<?>[] types = new Class<?>[parts.length];
        Object[] given = new Object[parts.length];
        for (int i = 0; i < parts.length; i++) {
            types[i] = int.class;
            given[i] = Integer.parseInt(parts[i]);
        }
        try {
            return ((Number) OneForOne.class.getMethod(name, types).invoke(lake, given)).longValue();
        } catch (ReflectiveOperationException e) {
            must(false, name + "(" + numbers + "): " + e);
            return Long.MIN_VALUE;
        }
    }

    private static void due(String line, long got, long want) {
        examples++;
        must(got == want, line + " .. answered " + got);
    }

    private static void must(boolean good, String what) {
        if (!good) {
            wrong++;
            System.out.println(what);
        }
    }
}
