import java.io.IOException;
import java.nio.file.Files;
import java.nio.file.Path;
import java.util.LinkedHashSet;
import java.util.Set;

/**
 * What the tests share: texts put on a tape, answers that are due, and all that can be seen of an object.
 * Tests extend it, since a class without a package can't be imported.
 */
abstract class Dues {
    static final int NONE = -1;

    private static final Set<String> QUOTED = new LinkedHashSet<>();
    private static int wrong = 0;
    private static int promise = 0;
    private static String sentence = "";

    /** Names the promise of all answers that are due from here on. */
    static void promise(int number) {
        promise = number;
        sentence = "";
    }

    /** Names the promise and the document's own words that a test is of. */
    static void says(int number, String words) {
        promise = number;
        sentence = " (" + words + ")";
        QUOTED.add(words);
    }

    static void due(String call, int got, int want) {
        if (got != want) {
            tell(call + " answered " + got + ", due is " + want);
        }
    }

    static void due(String call, boolean got, boolean want) {
        if (got != want) {
            tell(call + " answered " + got + ", due is " + want);
        }
    }

    static void due(String call, String got, String want) {
        if (!got.equals(want)) {
            tell(call + " shows " + got + ", due is " + want);
        }
    }

    private static void tell(String what) {
        wrong++;
        System.out.println("promise " + promise + sentence + ": " + what);
    }

    /** Ends a test's main: exit code 1 if an answer was not the one that is due. */
    static void end(String fine) {
        System.out.println(wrong == 0 ? fine : wrong + " answers are not as due");
        if (wrong != 0) {
            System.exit(1);
        }
    }

    /** A quote that the document has not (any more) is a fault of the test; without a document none is asked. */
    static void areInDocument(String[] args) throws IOException {
        if (args.length == 0) {
            return;
        }
        Path main = Path.of(args[0]).toAbsolutePath().getParent();
        Path document = main.resolve("../../../../shared/DOC.md").normalize();
        if (!Files.exists(document)) {
            return;
        }
        String text = Files.readString(document).replaceAll("\\s+", " ");
        for (String words : QUOTED) {
            if (!text.contains(words)) {
                promise = 0;
                sentence = "";
                tell("the document does not say: " + words);
            }
        }
    }

    // ---- texts

    static void feedText(SorrowPipes x, String text) {
        for (int i = 0; i < text.length(); i += 20) {
            int[] words = new int[5];
            for (int j = 0; j < 20; j++) {
                int b = i + j < text.length() ? text.charAt(i + j) : 0;
                words[j / 4] |= b << 24 - 8 * (j % 4);
            }
            x.feed(words[0], words[1], words[2], words[3], words[4]);
        }
    }

    static void feedBytes(SorrowPipes x, int... bytes) {
        StringBuilder text = new StringBuilder();
        for (int b : bytes) {
            text.append((char) b);
        }
        feedText(x, text.toString());
    }

    /** As many bytes 0 as the tape still takes. */
    static void fillTape(SorrowPipes x) {
        for (int i = x.count(6); i + 20 <= 260; i += 20) {
            x.feed(0, 0, 0, 0, 0);
        }
    }

    static int law(SorrowPipes x, String text) {
        feedText(x, text);
        return x.law(text.length());
    }

    static int town(SorrowPipes x, String text) {
        feedText(x, text);
        return x.town(text.length());
    }

    static int orders(SorrowPipes x, String text) {
        feedText(x, text);
        return x.orders(text.length());
    }

    static SorrowPipes of(String town) {
        SorrowPipes x = new SorrowPipes();
        due("town " + town, town(x, town) >= 0, true);
        return x;
    }

    static SorrowPipes of(String town, String orders) {
        SorrowPipes x = of(town);
        due("orders " + orders, orders(x, orders) > 0, true);
        return x;
    }

    static SorrowPipes of(String town, String orders, String law) {
        SorrowPipes x = of(town, orders);
        due("law " + law, law(x, law) > 0, true);
        return x;
    }

    static int nextX(int x) {
        return (int) ((25173L * x + 13849L) % 65536L);
    }

    static int nextX(int x, int draws) {
        int drawn = x;
        for (int i = 0; i < draws; i++) {
            drawn = nextX(drawn);
        }
        return drawn;
    }

    // ---- what can be seen

    /** All that can be asked of an object but the tape; the law shows itself by what is tried. */
    static String seen(SorrowPipes x) {
        StringBuilder all = new StringBuilder();
        for (int what = 0; what <= 10; what++) {
            all.append(what == 6 ? 0 : x.count(what)).append(' ');
        }
        int told = x.count(1);
        for (int c = 0; c < 16; c++) {
            if ((told >> c & 1) == 1) {
                all.append((char) ('a' + c));
                for (int what = 0; what <= 5; what++) {
                    all.append(' ').append(x.cornerIs(c, what));
                }
                all.append(' ').append(x.tried(2, 10 + c)).append(' ').append(x.tried(2, 30 + c)).append("; ");
            }
        }
        int pipes = x.count(2);
        for (int p = 0; p < pipes; p++) {
            all.append('#');
            for (int what = 0; what <= 3; what++) {
                all.append(' ').append(x.pipeIs(p, what));
            }
            all.append("; ");
        }
        return all.append(x.tried(3, 0)).append(' ').append(x.tried(3, 1)).toString();
    }

    /** Nothing but the tape is other than before, and the tape has so many bytes. */
    static void stays(String call, SorrowPipes x, String before, int tape) {
        due("behind " + call + " the tape", x.count(6), tape);
        due("behind " + call + " all", seen(x), before);
    }
}
