import java.io.IOException;
import java.lang.reflect.Constructor;
import java.lang.reflect.Field;
import java.lang.reflect.Method;
import java.lang.reflect.Modifier;
import java.nio.file.Files;
import java.nio.file.Path;
import java.util.ArrayList;
import java.util.HashSet;
import java.util.List;
import java.util.Random;
import java.util.Set;
import java.util.TreeSet;
import java.util.regex.Matcher;
import java.util.regex.Pattern;

/**
 * The rules of LANGUAGE.md that can be looked at from outside: the face, the words, sizes, and that no call
 * throws or makes objects. The first argument is the path of SorrowPipes.java.
 */
public final class SorrowPipesLanguage {
    private static final String[] FACE = {
        "feed 5 int", "law 1 int", "town 1 int", "orders 1 int", "minutes 1 int", "tried 2 int", "cornerIs 2 int",
        "pipeIs 2 int", "dry 2 int", "most 3 int", "cut 2 int", "widest 2 int", "steps 2 int", "bridges 1 int",
        "brigades 2 int", "painted 1 int", "keptOpen 0 int", "farthest 1 int", "ring 1 int", "highest 1 int",
        "longest 2 int", "byEighths 3 int", "readings 1 int", "hose 3 int", "seed 1 boolean", "keep 0 int",
        "undo 0 boolean", "check 1 int", "count 1 int",
    };
    private static final String[] WORDS = {
        "throw", "throws", "try", "catch", "finally", "synchronized", "assert", "package", "protected", "hashCode",
        "toString", "Object", "Random", "Thread", "currentTimeMillis", "nanoTime", "native", "volatile", "goto",
    };
    private static int wrong = 0;

    public static void main(String[] args) throws IOException {
        if (args.length != 1) {
            System.out.println("the path of SorrowPipes.java is missing");
            System.exit(1);
        }
        face();
        classesInside();
        words(Files.readString(Path.of(args[0])));
        wildCalls();
        noObjects();
        System.out.println(wrong == 0 ? "the rules are kept" : wrong + " rules are not kept");
        if (wrong != 0) {
            System.exit(1);
        }
    }

    private static void must(boolean holds, String rule) {
        if (!holds) {
            wrong++;
            System.out.println("not so: " + rule);
        }
    }

    private static void face() {
        Set<String> found = new TreeSet<>();
        for (Method m : SorrowPipes.class.getDeclaredMethods()) {
            if (Modifier.isPublic(m.getModifiers())) {
                found.add(m.getName() + " " + m.getParameterCount() + " " + m.getReturnType());
            } else {
                must(Modifier.isPrivate(m.getModifiers()), m + " is private");
            }
        }
        must(found.equals(new TreeSet<>(List.of(FACE))), "the face has just the document's methods: " + found);
        for (Field f : SorrowPipes.class.getDeclaredFields()) {
            boolean isNone = f.getName().equals("NONE") && Modifier.isPublic(f.getModifiers());
            must(isNone || Modifier.isPrivate(f.getModifiers()), f + " is private");
        }
        Constructor<?>[] made = SorrowPipes.class.getDeclaredConstructors();
        must(made.length == 1 && Modifier.isPublic(made[0].getModifiers()), "one public constructor");
        must(Modifier.isFinal(SorrowPipes.class.getModifiers()), "the class is final");
    }

    private static void classesInside() {
        Set<String> names = new HashSet<>();
        for (String each : FACE) {
            names.add(each.substring(0, each.indexOf(' ')));
        }
        List<Class<?>> all = new ArrayList<>(List.of(SorrowPipes.class.getDeclaredClasses()));
        must(all.size() <= 11, "at most twelve classes");
        for (Class<?> each : all) {
            must(Modifier.isStatic(each.getModifiers()) && !Modifier.isPublic(each.getModifiers()), each + " is static");
        }
        all.add(SorrowPipes.class);
        for (Class<?> each : all) {
            int fields = 0;
            for (Field f : each.getDeclaredFields()) {
                boolean isStatic = Modifier.isStatic(f.getModifiers());
                must(!isStatic || Modifier.isFinal(f.getModifiers()), f + " is final");
                fields += isStatic ? 0 : 1;
            }
            must(fields <= 20, each + " has at most twenty fields");
            for (Method m : each.getDeclaredMethods()) {
                must(m.getParameterCount() <= 7, m + " takes at most seven parameters");
                boolean isOfFace = each == SorrowPipes.class && Modifier.isPublic(m.getModifiers());
                must(isOfFace || !names.contains(m.getName()), m + " bears no public method's name");
            }
        }
    }

    private static void words(String source) {
        String code = source.replaceAll("(?s)/\\*.*?\\*/", " ").replaceAll("//[^\n]*", " ")
                .replaceAll("\"[^\"\n]*\"", "\"\"").replaceAll("'[^'\n]'", "' '");
        for (String word : WORDS) {
            must(!Pattern.compile("\\b" + word + "\\b").matcher(code).find(), "no " + word);
        }
        must(!code.contains("->") && !code.contains("::"), "no lambda, no method reference");
        Matcher imports = Pattern.compile("import ([^;]*);").matcher(code);
        while (imports.find()) {
            must(imports.group(1).equals("java.util.Arrays"), "no import of " + imports.group(1));
        }
        Matcher calls = Pattern.compile("\\b(Math|Integer|Long|Arrays|System)\\.(\\w+)").matcher(code);
        Set<String> fine = Set.of("Math.min", "Math.max", "Integer.bitCount", "Arrays.fill", "System.arraycopy");
        while (calls.find()) {
            must(fine.contains(calls.group()), "no call of " + calls.group());
        }
        methodsAreShort(source.split("\n"));
    }

    /** The face's methods stand ahead of the classes inside, whose own are four blanks further in. */
    private static void methodsAreShort(String[] lines) {
        String indent = "    ";
        int start = 0;
        int methods = 0;
        for (int i = 0; i < lines.length; i++) {
            if (lines[i].startsWith("    private static final class")) {
                indent = "        ";
            } else if (lines[i].matches(indent + "[a-zA-Z].*\\) \\{")) {
                start = i;
                methods++;
            } else if (lines[i].equals(indent + "}")) {
                must(i - start < 60, "short: " + lines[start]);
                callsItselfOnlyIfStatic(lines, start, i);
            }
        }
        must(methods > 100, "all methods were met: " + methods);
    }

    /** Rule 8: "a private static method that calls itself"; others may only call one another. */
    private static void callsItselfOnlyIfStatic(String[] lines, int start, int end) {
        Matcher header = Pattern.compile("(\\w+)\\(").matcher(lines[start]);
        if (!header.find()) {
            return;
        }
        Pattern itself = Pattern.compile("(?<![.\\w])" + header.group(1) + "\\(");
        for (int i = start + 1; i < end; i++) {
            if (itself.matcher(lines[i]).find()) {
                boolean isFine = lines[start].trim().startsWith("private static ");
                must(isFine, "only a private static method calls itself: " + lines[start].trim());
            }
        }
    }

    /** No call throws, for any arguments in any state. */
    private static void wildCalls() {
        Random random = new Random(4711);
        List<Method> methods = new ArrayList<>();
        for (Method m : SorrowPipes.class.getMethods()) {
            if (m.getDeclaringClass() == SorrowPipes.class) {
                methods.add(m);
            }
        }
        methods.sort((a, b) -> a.getName().compareTo(b.getName()));
        int[] edges = {Integer.MIN_VALUE, Integer.MIN_VALUE + 1, -1000, -2, -1, 0, 1, 2, 16, 24, 100, Integer.MAX_VALUE};
        for (int run = 0; run < 200; run++) {
            SorrowPipes x = new SorrowPipes();
            for (int call = 0; call < 512; call++) {
                Method m = methods.get(random.nextInt(methods.size()));
                Object[] given = new Object[m.getParameterCount()];
                for (int i = 0; i < given.length; i++) {
                    given[i] = random.nextInt(3) == 0 ? edges[random.nextInt(edges.length)]
                            : random.nextInt(2) == 0 ? random.nextInt(30) : random.nextInt();
                }
                try {
                    m.invoke(x, given);
                } catch (ReflectiveOperationException e) {
                    must(false, m.getName() + " does not throw: " + e.getCause());
                }
            }
        }
    }

    /** The dearest calls of a full town make nothing: all rows are made with the object. */
    private static void noObjects() {
        com.sun.management.ThreadMXBean bean =
                (com.sun.management.ThreadMXBean) java.lang.management.ManagementFactory.getThreadMXBean();
        SorrowPipes x = new SorrowPipes();
        dearCalls(x);
        long before = bean.getCurrentThreadAllocatedBytes();
        dearCalls(x);
        long made = bean.getCurrentThreadAllocatedBytes() - before;
        must(made < 2000, "calls make no objects (" + made + " bytes)");
    }

    private static void dearCalls(SorrowPipes x) {
        // a-b1-c1-d1-a1;e-f1-g1-h1-e1;a-e1
        x.feed(0x612D6231, 0x2D63312D, 0x64312D61, 0x313B652D, 0x66312D67);
        x.feed(0x312D6831, 0x2D65313B, 0x612D6531, 0, 0);
        must(x.town(32) == 9, "a town of nine pipes");
        // r[w+s]*3(m<50|!n=2&s>7)
        x.feed(0x725B772B, 0x735D2A33, 0x286D3C35, 0x307C216E, 0x3D322673);
        x.feed(0x3E372900, 0, 0, 0, 0);
        must(x.law(23) == 1, "a law of one rule");
        // a@8;b+99;#1!
        x.feed(0x6140383B, 0x622B3939, 0x3B233121, 0, 0);
        must(x.orders(12) == 3, "orders of three lines");
        x.keep();
        x.minutes(100);
        x.tried(100, 0);
        x.dry(1, 100);
        x.undo();
        for (int c = 0; c < 8; c++) {
            x.most(c, 7 - c, 1);
            x.cut(c, 7 - c);
            x.widest(c, 7 - c);
            x.steps(c, 7 - c);
            x.painted(c);
            x.ring(c);
            x.longest(c, 1);
        }
        for (int what = 0; what < 11; what++) {
            x.count(what);
            x.bridges(what);
            x.brigades(4, what);
            x.farthest(what);
            x.highest(what);
        }
        x.keptOpen();
        x.feed(0x01020304, 0x05060708, 0, 0, 0);
        x.byEighths(8, 100, 0);
        x.feed(0x01020304, 0x05060708, 0, 0, 0);
        x.readings(0);
        x.feed(0x01020304, 0x05060708, 0, 0, 0);
        x.hose(4, 4, 100);
        x.feed(0x01020304, 0x05060708, 0, 0, 0);
        x.check(16);
    }
}
