import java.io.IOException;
import java.lang.reflect.Method;
import java.lang.reflect.Modifier;
import java.nio.file.Files;
import java.nio.file.Path;
import java.util.HashMap;
import java.util.Map;
import java.util.regex.Matcher;
import java.util.regex.Pattern;

/**
 * README.md: each row of its example answers what stands behind it, and each public call is named.
 * The first argument is the path of SorrowPipes.java.
 */
public final class SorrowPipesReadme {
    private static final Pattern ROW =
            Pattern.compile("town\\.(\\w+)\\(([^)]*)\\);\\s+// (-?\\d+|true|false): .*");
    private static final int LEAST_ROWS = 10;

    private static int wrong = 0;

    public static void main(String[] args) throws IOException, ReflectiveOperationException {
        if (args.length != 1) {
            System.out.println("the path of SorrowPipes.java is missing");
            System.exit(1);
        }
        Path root = Path.of(args[0]).toAbsolutePath().getParent().resolve("../../..").normalize();
        String readme = Files.readString(root.resolve("README.md"));
        Map<String, Method> face = face();
        example(readme, face);
        for (String name : face.keySet()) {
            must(readme.contains("`" + name + "`"), "README.md names " + name);
        }
        System.out.println(wrong == 0 ? "README.md says what is so" : wrong + " things in README.md are not so");
        if (wrong != 0) {
            System.exit(1);
        }
    }

    private static Map<String, Method> face() {
        Map<String, Method> face = new HashMap<>();
        for (Method m : SorrowPipes.class.getDeclaredMethods()) {
            if (Modifier.isPublic(m.getModifiers())) {
                face.put(m.getName(), m);
            }
        }
        return face;
    }

    private static void example(String readme, Map<String, Method> face) throws ReflectiveOperationException {
        SorrowPipes town = new SorrowPipes();
        int rows = 0;
        for (String line : readme.split("\n")) {
            if (!line.startsWith("town.")) {
                continue;
            }
            Matcher row = ROW.matcher(line);
            if (!row.matches() || !face.containsKey(row.group(1))) {
                must(false, "a call and its answer: " + line);
                continue;
            }
            rows++;
            Object got = face.get(row.group(1)).invoke(town, numbers(row.group(2)));
            must(got.toString().equals(row.group(3)), line + " (it answered " + got + ")");
        }
        must(rows >= LEAST_ROWS, "the example was found: " + rows + " rows");
    }

    private static Object[] numbers(String text) {
        if (text.isBlank()) {
            return new Object[0];
        }
        String[] parts = text.split(",");
        Object[] numbers = new Object[parts.length];
        for (int i = 0; i < parts.length; i++) {
            numbers[i] = Long.decode(parts[i].trim()).intValue();
        }
        return numbers;
    }

    private static void must(boolean holds, String what) {
        if (!holds) {
            wrong++;
            System.out.println("not so: " + what);
        }
    }
}
