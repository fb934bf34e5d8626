import java.util.ArrayDeque;
import java.util.ArrayList;
import java.util.Arrays;
import java.util.HashMap;
import java.util.HashSet;
import java.util.List;
import java.util.Map;
import java.util.Random;
import java.util.Set;

/**
 * Long random runs of calls, answered by the class and by a model that follows the document's words with
 * other means (tries of all sets, walks over all states, texts read by a machine with a stack).
 */
public final class SorrowPipesModel {
    private static final int RUNS = 400;
    private static final int CALLS = 500;

    public static void main(String[] args) {
        int wrong = 0;
        Set<String> faultsMet = new HashSet<>();
        for (int run = 0; run < RUNS && wrong < 10; run++) {
            Script script = new Script(new Random(7919L * run + 17), faultsMet);
            for (int call = 0; call < CALLS; call++) {
                String told = script.step();
                if (told != null) {
                    wrong++;
                    System.out.println("run " + run + ", call " + call + ": " + told);
                    break;
                }
            }
        }
        for (String due : new String[] {"law1", "law2", "law4", "law5", "town1", "town2", "town3", "town4", "town5",
                "town6", "orders1", "orders2", "orders4", "orders7"}) {
            if (!faultsMet.contains(due)) {
                wrong++;
                System.out.println("no run met the fault " + due);
            }
        }
        System.out.println(wrong == 0 ? "the class and the model agree" : wrong + " runs do not agree");
        if (wrong != 0) {
            System.exit(1);
        }
    }

    /** One object of each, and calls drawn for both. */
    static final class Script {
        final SorrowPipes x = new SorrowPipes();
        final Model m = new Model();
        final Random random;
        final Set<String> faultsMet;
        final List<int[]> feeds = new ArrayList<>();
        String pending;
        int pendingLength;
        int corners;

        Script(Random random, Set<String> faultsMet) {
            this.random = random;
            this.faultsMet = faultsMet;
            corners = 1 + random.nextInt(16);
        }

        String step() {
            if (!feeds.isEmpty()) {
                int[] f = feeds.remove(0);
                return same("feed", x.feed(f[0], f[1], f[2], f[3], f[4]), m.feed(f));
            }
            if (pending != null) {
                String kind = pending;
                pending = null;
                return readText(kind, pendingLength);
            }
            int draw = random.nextInt(100);
            if (draw < 6) {
                return plan("town", townText());
            }
            if (draw < 18) {
                return plan("orders", ordersText());
            }
            if (draw < 26) {
                return plan("law", lawText());
            }
            if (draw < 34) {
                return planBytes();
            }
            return ask();
        }

        String plan(String kind, String text) {
            String sent = text;
            if (random.nextInt(3) == 0) {
                sent = spoil(sent);
            }
            pending = kind;
            pendingLength = random.nextInt(40) == 0 ? random.nextInt(270) - 3 : sent.length();
            feedText(sent);
            return null;
        }

        String planBytes() {
            StringBuilder bytes = new StringBuilder();
            int n = 1 + random.nextInt(80);
            int span = random.nextInt(3) == 0 ? 256 : 1 + random.nextInt(12);
            for (int i = 0; i < n; i++) {
                bytes.append((char) random.nextInt(span));
            }
            pending = "bytes";
            feedText(bytes.toString());
            return null;
        }

        void feedText(String text) {
            for (int i = 0; i < text.length(); i += 20) {
                int[] words = new int[5];
                for (int j = 0; j < 20; j++) {
                    int b = i + j < text.length() ? text.charAt(i + j) : random.nextInt(256);
                    words[j / 4] = words[j / 4] << 8 | b;
                }
                feeds.add(words);
            }
        }

        String readText(String kind, int n) {
            int got;
            int want;
            if (kind.equals("bytes")) {
                return readBytes();
            } else if (kind.equals("town")) {
                got = x.town(n);
                want = m.town(n);
            } else if (kind.equals("orders")) {
                got = x.orders(n);
                want = m.orders(n);
            } else {
                got = x.law(n);
                want = m.law(n);
            }
            if (want <= -1000) {
                faultsMet.add(kind + (-want / 1000));
            }
            return same(kind + "(" + n + ") of " + m.lastText, got, want);
        }

        String readBytes() {
            switch (random.nextInt(4)) {
                case 0: {
                    int n = random.nextInt(10);
                    int sum = random.nextInt(4) == 0 ? random.nextInt(16400) - 20 : random.nextInt(120);
                    int what = near(0, 1);
                    return same("byEighths(" + n + ", " + sum + ", " + what + ")", x.byEighths(n, sum, what),
                            m.byEighths(n, sum, what));
                }
                case 1: {
                    int what = near(0, 2);
                    return same("readings(" + what + ")", x.readings(what), m.readings(what));
                }
                case 2: {
                    int fires = near(1, 12);
                    int hoses = near(1, 6);
                    int what = random.nextInt(3) == 0 ? 100 : near(0, fires - 1);
                    return same("hose(" + fires + ", " + hoses + ", " + what + ")", x.hose(fires, hoses, what),
                            m.hose(fires, hoses, what));
                }
                default: {
                    int n = near(0, 16);
                    return same("check(" + n + ")", x.check(n), m.check(n));
                }
            }
        }

        String ask() {
            int c = corner();
            int d = corner();
            switch (random.nextInt(27)) {
                case 0: {
                    int n = random.nextInt(3) == 0 ? 1 + random.nextInt(5) : near(1, 100);
                    return same("minutes(" + n + ")", x.minutes(n), m.minutes(n));
                }
                case 1:
                case 2: {
                    int n = near(1, 30);
                    int what = random.nextInt(48) - 1;
                    return same("tried(" + n + ", " + what + ")", x.tried(n, what), m.tried(n, what));
                }
                case 3: {
                    int what = near(0, 5);
                    return same("cornerIs(" + c + ", " + what + ")", x.cornerIs(c, what), m.cornerIs(c, what));
                }
                case 4: {
                    int p = near(0, 23);
                    int what = near(0, 3);
                    return same("pipeIs(" + p + ", " + what + ")", x.pipeIs(p, what), m.pipeIs(p, what));
                }
                case 5: {
                    int n = near(1, 100);
                    return same("dry(" + c + ", " + n + ")", x.dry(c, n), m.dry(c, n));
                }
                case 6:
                case 7: {
                    int what = near(0, 1);
                    return same("most(" + c + ", " + d + ", " + what + ")", x.most(c, d, what), m.most(c, d, what));
                }
                case 8:
                    return same("cut(" + c + ", " + d + ")", x.cut(c, d), m.cut(c, d));
                case 9:
                    return same("widest(" + c + ", " + d + ")", x.widest(c, d), m.widest(c, d));
                case 10:
                    return same("steps(" + c + ", " + d + ")", x.steps(c, d), m.steps(c, d));
                case 11: {
                    int what = near(0, 1);
                    return same("bridges(" + what + ")", x.bridges(what), m.bridges(what));
                }
                case 12: {
                    int k = near(1, 5);
                    int what = near(0, 1);
                    return same("brigades(" + k + ", " + what + ")", x.brigades(k, what), m.brigades(k, what));
                }
                case 13:
                case 14:
                    return same("painted(" + c + ")", x.painted(c), m.painted(c));
                case 15:
                    return same("keptOpen()", x.keptOpen(), m.keptOpen());
                case 16: {
                    int what = near(0, 2);
                    return same("farthest(" + what + ")", x.farthest(what), m.farthest(what));
                }
                case 17:
                    return same("ring(" + c + ")", x.ring(c), m.ring(c));
                case 18: {
                    int what = near(0, 1);
                    return same("highest(" + what + ")", x.highest(what), m.highest(what));
                }
                case 19: {
                    int what = near(0, 1);
                    return same("longest(" + c + ", " + what + ")", x.longest(c, what), m.longest(c, what));
                }
                case 20: {
                    int seed = random.nextInt(4) == 0 ? random.nextInt() : random.nextInt(65536);
                    return same("seed(" + seed + ")", x.seed(seed) ? 1 : 0, m.seed(seed));
                }
                case 21:
                    return random.nextInt(2) == 0 ? null : same("keep()", x.keep(), m.keep());
                case 22:
                    return same("undo()", x.undo() ? 1 : 0, m.undo());
                default: {
                    int what = near(0, 10);
                    return same("count(" + what + ")", x.count(what), m.count(what));
                }
            }
        }

        /** Mostly a number between two, at times one beyond them. */
        int near(int low, int high) {
            int draw = random.nextInt(40);
            if (draw == 0) {
                return low - 1;
            }
            if (draw == 1) {
                return high + 1;
            }
            if (draw == 2) {
                return random.nextInt();
            }
            return low + random.nextInt(Math.max(1, high - low + 1));
        }

        int corner() {
            return random.nextInt(12) == 0 ? near(0, 15) : random.nextInt(corners);
        }

        String same(String call, int got, int want) {
            return got == want ? null : call + " answered " + got + ", due is " + want + "\n  town " + m.townText
                    + "\n  law " + m.lawText;
        }

        String spoil(String text) {
            StringBuilder b = new StringBuilder(text);
            String signs = "abcdehmnopqrstuwx0123456789=-;@+#!?~()[]|&<>*/% ";
            int times = 1 + random.nextInt(2);
            for (int i = 0; i < times; i++) {
                char sign = random.nextInt(30) == 0 ? (char) random.nextInt(256)
                        : signs.charAt(random.nextInt(signs.length()));
                int at = random.nextInt(b.length() + 1);
                int how = random.nextInt(4);
                if (how == 0 || at == b.length()) {
                    b.insert(at, sign);
                } else if (how == 1 && b.length() > 1) {
                    b.deleteCharAt(at);
                } else if (how == 2) {
                    b.setLength(Math.max(1, at));
                } else {
                    b.setCharAt(at, sign);
                }
            }
            return b.length() > 260 ? b.substring(0, 260) : b.toString();
        }

        String townText() {
            if (random.nextInt(4) == 0) {
                corners = 1 + random.nextInt(16);
            }
            StringBuilder b = new StringBuilder();
            int pipes = random.nextInt(3) == 0 ? 20 + random.nextInt(6) : random.nextInt(16);
            int widths = random.nextBoolean() ? 9 : 99;
            int linesMore = random.nextInt(8) == 0 ? 26 : random.nextInt(5);
            while ((pipes > 0 || linesMore > 0) && b.length() < 154) {
                if (b.length() > 0) {
                    b.append(';');
                }
                int c = random.nextInt(corners);
                b.append((char) ('a' + c));
                if (corners > 1 && pipes > 0 && random.nextInt(5) != 0) {
                    int roads = 1 + random.nextInt(pipes);
                    for (int i = 0; i < roads && b.length() < 155; i++) {
                        int d = random.nextInt(corners);
                        if (d == c && random.nextInt(300) != 0) {
                            d = (c + 1) % corners;
                        }
                        int width = random.nextInt(500) == 0 ? 0 : 1 + random.nextInt(widths);
                        b.append('-').append((char) ('a' + d)).append(width);
                        c = d;
                        pipes--;
                    }
                } else {
                    linesMore--;
                    if (corners == 1) {
                        pipes = 0;
                    }
                    if (random.nextBoolean()) {
                        b.append('=').append(random.nextInt(100));
                    }
                }
            }
            return b.length() == 0 ? "a" : b.toString();
        }

        String ordersText() {
            StringBuilder b = new StringBuilder();
            int lines = random.nextInt(10) == 0 ? 19 + random.nextInt(4) : 1 + random.nextInt(12);
            for (int i = 0; i < lines && b.length() < 112; i++) {
                if (i > 0) {
                    b.append(';');
                }
                int kind = random.nextInt(20);
                int told = m.told == 0 || random.nextInt(60) == 0 ? random.nextInt(16) : toldCorner();
                if (kind < 7) {
                    b.append((char) ('a' + told)).append('@').append(random.nextInt(9));
                } else if (kind < 13) {
                    b.append((char) ('a' + told)).append(random.nextInt(4) == 0 ? '-' : '+');
                    b.append(random.nextInt(random.nextBoolean() ? 100 : 10000));
                } else if (kind < 18) {
                    int pipes = Math.max(1, m.pipes.size());
                    b.append('#').append(random.nextInt(40) == 0 ? random.nextInt(100) : random.nextInt(pipes));
                    b.append(random.nextInt(3) == 0 ? '!' : '?');
                } else {
                    b.append('~').append(random.nextInt(random.nextBoolean() ? 1000 : 1000000));
                }
            }
            return b.toString();
        }

        int toldCorner() {
            int c = random.nextInt(16);
            while ((m.told >> c & 1) == 0) {
                c = random.nextInt(16);
            }
            return c;
        }

        String lawText() {
            if (random.nextInt(6) == 0) {
                return deepLaw();
            }
            StringBuilder b = new StringBuilder();
            int rules = random.nextInt(8) == 0 ? 15 + random.nextInt(4) : 1 + random.nextInt(5);
            for (int i = 0; i < rules && b.length() < 200; i++) {
                StringBuilder rule = new StringBuilder();
                char kind = "rox".charAt(random.nextInt(3));
                rule.append(kind);
                int size = rules > 9 ? 0 : 2 + random.nextInt(4);
                if (kind != 'x') {
                    sum(rule, 0, size);
                }
                rule.append('(');
                condition(rule, 1, size);
                rule.append(')');
                if (b.length() + rule.length() < 238) {
                    if (b.length() > 0) {
                        b.append(';');
                    }
                    b.append(rule);
                }
            }
            return b.length() == 0 ? "x(w=1)" : b.toString();
        }

        /** About as many signs open in one another as may be. */
        String deepLaw() {
            int sums = random.nextInt(8);
            int tests = random.nextInt(8);
            int within = Math.max(0, 4 + random.nextInt(4) - tests);
            StringBuilder b = new StringBuilder("r");
            b.append("[".repeat(sums)).append("w").append("]".repeat(sums)).append('(');
            StringBuilder closing = new StringBuilder();
            for (int i = 0; i < tests; i++) {
                boolean isNot = random.nextBoolean();
                b.append(isNot ? '!' : '(');
                closing.append(isNot ? "" : random.nextBoolean() ? ")" : "|!w=1)");
            }
            b.append("w=").append("[".repeat(within)).append("5").append("]".repeat(within));
            return b.append(closing).append(')').toString();
        }

        void condition(StringBuilder b, int opened, int size) {
            int tests = 1 + random.nextInt(size > 1 ? 3 : 1);
            for (int i = 0; i < tests; i++) {
                if (i > 0) {
                    b.append(random.nextBoolean() ? '|' : '&');
                }
                test(b, opened, size - tests);
            }
        }

        void test(StringBuilder b, int opened, int size) {
            int most = random.nextInt(40) == 0 ? 8 : 6;
            int kind = random.nextInt(8);
            if (kind == 0 && opened < most) {
                b.append('!');
                test(b, opened + 1, size);
            } else if (kind <= 2 && opened < most && size > 0) {
                b.append('(');
                condition(b, opened + 1, size - 1);
                b.append(')');
            } else {
                sum(b, opened, size - 1);
                b.append("<>=".charAt(random.nextInt(3)));
                sum(b, opened, size - 1);
            }
        }

        void sum(StringBuilder b, int opened, int size) {
            int factors = 1 + random.nextInt(size > 1 ? 4 : 2);
            for (int i = 0; i < factors; i++) {
                if (i > 0) {
                    b.append("+-*/%*/%".charAt(random.nextInt(8)));
                }
                int kind = random.nextInt(9);
                int most = random.nextInt(40) == 0 ? 8 : 6;
                if (kind == 0 && opened < most && size > -3) {
                    b.append('[');
                    sum(b, opened + 1, size - 1);
                    b.append(']');
                } else if (kind < 3) {
                    int[] spans = {2, 10, 100, 100000, 110000};
                    b.append(random.nextInt(spans[random.nextInt(random.nextInt(9) == 0 ? 5 : 4)]));
                } else {
                    b.append("chsunmqatwww".charAt(random.nextInt(12)));
                }
            }
        }
    }

    static final class Fault extends RuntimeException {
        private static final long serialVersionUID = 1L;
        final int answer;

        Fault(int number, int place) {
            answer = -1000 * number - place;
        }
    }

    static final class Refused extends RuntimeException {
        private static final long serialVersionUID = 1L;
    }

    record Pipe(int from, int to, int width) { }

    static final class Kept {
        int told;
        int pipes;
        int[] sorrow;
        int[] turn;
        int[] wept;
        boolean[] open;
        int sea;
        int minute;
        int x;
    }

    /** The document's words, said plainly. */
    static final class Model {
        final List<Integer> tape = new ArrayList<>();
        String lastText = "";
        String townText = "";
        String lawText = "";
        int ruleCount;
        int told;
        int[] height = new int[16];
        List<Pipe> pipes = new ArrayList<>();
        int[] sorrow = new int[16];
        int[] turn = new int[16];
        int[] wept = new int[16];
        boolean[] open = new boolean[24];
        int sea = 9999;
        int minute;
        int x = 1;
        Kept kept;

        int feed(int[] words) {
            if (tape.size() > 240) {
                return -1;
            }
            for (int word : words) {
                for (int i = 3; i >= 0; i--) {
                    tape.add(word >> 8 * i & 255);
                }
            }
            return tape.size();
        }

        int[] take(int n) {
            int[] bytes = new int[n];
            for (int i = 0; i < n; i++) {
                bytes[i] = tape.get(i);
            }
            tape.clear();
            return bytes;
        }

        String takeText(int n) {
            StringBuilder b = new StringBuilder();
            for (int each : take(n)) {
                b.append((char) each);
            }
            lastText = b.toString();
            return lastText;
        }

        boolean isTold(int c) {
            return c >= 0 && c < 16 && (told >> c & 1) == 1;
        }

        // ---- texts

        int town(int n) {
            if (n < 1 || n > 160 || n > tape.size()) {
                return -1;
            }
            String text = takeText(n) + (char) 1000;
            int newTold = 0;
            int[] newHeight = new int[16];
            List<Pipe> newPipes = new ArrayList<>();
            int lines = 0;
            int ahead = -1;
            int number = 0;
            int digits = 0;
            int other = -1;
            // s: line's start, c: behind its letter, h: height, l: road's letter, w: width
            char state = 's';
            for (int i = 0; i < text.length(); i++) {
                char sign = text.charAt(i);
                boolean isEnd = i == n;
                boolean isLetter = sign >= 'a' && sign <= 'p';
                boolean isDigit = sign >= '0' && sign <= '9';
                if ((state == 'h' || state == 'w') && isDigit) {
                    if (digits == 2) {
                        return -2000 - i;
                    }
                    digits++;
                    number = 10 * number + sign - '0';
                    continue;
                }
                if ((state == 'h' || state == 'w') && digits == 0) {
                    return -1000 - i;
                }
                if (state == 'h') {
                    newHeight[ahead] = number;
                }
                if (state == 'w') {
                    if (number == 0) {
                        return -3000 - (i - digits);
                    }
                    newPipes.add(new Pipe(ahead, other, number));
                    ahead = other;
                }
                if (state == 's' || state == 'l') {
                    if (!isLetter) {
                        return -1000 - i;
                    }
                    if (state == 's') {
                        if (lines == 24) {
                            return -4000 - i;
                        }
                        lines++;
                        ahead = sign - 'a';
                        state = 'c';
                    } else {
                        other = sign - 'a';
                        if (other == ahead) {
                            return -6000 - i;
                        }
                        number = 0;
                        digits = 0;
                        state = 'w';
                    }
                    newTold |= 1 << (sign - 'a');
                } else if (isEnd) {
                    break;
                } else if (sign == ';') {
                    state = 's';
                } else if (sign == '-' && state != 'h') {
                    if (newPipes.size() == 24) {
                        return -5000 - i;
                    }
                    state = 'l';
                } else if (sign == '=' && state == 'c') {
                    number = 0;
                    digits = 0;
                    state = 'h';
                } else {
                    return -1000 - i;
                }
            }
            townText = lastText;
            told = newTold;
            height = newHeight;
            pipes = newPipes;
            sorrow = new int[16];
            turn = new int[16];
            wept = new int[16];
            open = new boolean[24];
            Arrays.fill(open, 0, pipes.size(), true);
            return pipes.size();
        }

        int orders(int n) {
            if (n < 1 || n > 120 || n > tape.size()) {
                return -1;
            }
            String text = takeText(n);
            try {
                return obey(text, false) > 0 ? obey(text, true) : 0;
            } catch (Fault f) {
                return f.answer;
            }
        }

        int obey(String text, boolean inEarnest) {
            int at = 0;
            int lines = 0;
            while (true) {
                int sign = signAt(text, at);
                if (!(sign >= 'a' && sign <= 'p' || sign == '#' || sign == '~')) {
                    throw new Fault(1, at);
                }
                if (lines == 20) {
                    throw new Fault(4, at);
                }
                lines++;
                int c = sign - 'a';
                if (sign >= 'a' && !isTold(c) && sign != '~') {
                    throw new Fault(7, at);
                }
                at++;
                if (sign == '~') {
                    int end = endOfNumber(text, at, 6);
                    if (inEarnest) {
                        sea = Integer.parseInt(text.substring(at, end));
                    }
                    at = end;
                } else if (sign == '#') {
                    int end = endOfNumber(text, at, 2);
                    int p = Integer.parseInt(text.substring(at, end));
                    if (p >= pipes.size()) {
                        throw new Fault(7, at);
                    }
                    int key = signAt(text, end);
                    if (key != '!' && key != '?') {
                        throw new Fault(1, end);
                    }
                    if (inEarnest) {
                        open[p] = key == '?';
                    }
                    at = end + 1;
                } else if (signAt(text, at) == '@') {
                    int eighth = signAt(text, at + 1);
                    if (eighth < '0' || eighth > '8') {
                        throw new Fault(1, at + 1);
                    }
                    if (inEarnest) {
                        turn[c] = eighth - '0';
                    }
                    at += 2;
                } else if (signAt(text, at) == '+' || signAt(text, at) == '-') {
                    int end = endOfNumber(text, at + 1, 4);
                    int much = Integer.parseInt(text.substring(at + 1, end));
                    if (inEarnest) {
                        int then = text.charAt(at) == '+' ? sorrow[c] + much : sorrow[c] - much;
                        sorrow[c] = Math.min(9999, Math.max(0, then));
                    }
                    at = end;
                } else {
                    throw new Fault(1, at);
                }
                if (at == text.length()) {
                    return lines;
                }
                if (text.charAt(at) != ';') {
                    throw new Fault(1, at);
                }
                at++;
            }
        }

        static int signAt(String text, int at) {
            return at < text.length() ? text.charAt(at) : -1;
        }

        static int endOfNumber(String text, int at, int most) {
            int end = at;
            while (signAt(text, end) >= '0' && signAt(text, end) <= '9') {
                if (end - at == most) {
                    throw new Fault(2, end);
                }
                end++;
            }
            if (end == at) {
                throw new Fault(1, at);
            }
            return end;
        }

        int law(int n) {
            if (n < 1 || n > 240 || n > tape.size()) {
                return -1;
            }
            String text = takeText(n);
            try {
                ruleCount = rulesOf(text);
            } catch (Fault f) {
                return f.answer;
            }
            lawText = text;
            return ruleCount;
        }

        /** A machine with a stack: R a rule's sum, L and G the sums left and right of a sign, ( [ !. */
        static int rulesOf(String text) {
            StringBuilder stack = new StringBuilder();
            int rules = 0;
            // s: rule's start, k: x's (, f: factor, t: test, d: digits, a: behind a factor, e: behind a test, z: rule's end
            char state = 's';
            int digits = 0;
            for (int i = 0; i <= text.length(); i++) {
                int sign = signAt(text, i);
                boolean isDigit = sign >= '0' && sign <= '9';
                if (state == 'd' && isDigit) {
                    if (digits == 5) {
                        throw new Fault(2, i);
                    }
                    digits++;
                    continue;
                }
                if (state == 'd') {
                    state = 'a';
                }
                char top = stack.length() == 0 ? ' ' : stack.charAt(stack.length() - 1);
                if (state == 's' && (sign == 'r' || sign == 'o' || sign == 'x')) {
                    if (rules == 16) {
                        throw new Fault(4, i);
                    }
                    rules++;
                    state = sign == 'x' ? 'k' : 'f';
                    if (sign != 'x') {
                        stack.append('R');
                    }
                } else if (state == 'k' && sign == '(') {
                    stack.append('(');
                    state = 't';
                } else if (state == 't' && (sign == '!' || sign == '(')) {
                    deeper(stack, (char) sign, i);
                } else if ((state == 't' || state == 'f') && (isDigit || sign == '[' || isLetter(sign))) {
                    if (state == 't') {
                        stack.append('L');
                    }
                    state = isDigit ? 'd' : sign == '[' ? 'f' : 'a';
                    digits = 1;
                    if (sign == '[') {
                        deeper(stack, '[', i);
                    }
                } else if (state == 'a' && sign > 0 && "+-*/%".indexOf(sign) >= 0) {
                    state = 'f';
                } else if (state == 'a' && sign == ']' && top == '[') {
                    stack.setLength(stack.length() - 1);
                } else if (state == 'a' && sign == '(' && top == 'R') {
                    stack.setCharAt(stack.length() - 1, '(');
                    state = 't';
                } else if (state == 'a' && (sign == '<' || sign == '>' || sign == '=') && top == 'L') {
                    stack.setCharAt(stack.length() - 1, 'G');
                    state = 'f';
                } else if ((state == 'e' || state == 'a' && top == 'G') && (sign == '&' || sign == '|' || sign == ')')) {
                    while (stack.charAt(stack.length() - 1) == 'G' || stack.charAt(stack.length() - 1) == '!') {
                        stack.setLength(stack.length() - 1);
                    }
                    if (sign == ')') {
                        stack.setLength(stack.length() - 1);
                    }
                    state = sign != ')' ? 't' : stack.length() == 0 ? 'z' : 'e';
                } else if (state == 'z' && sign == ';') {
                    state = 's';
                } else if (state == 'z' && sign == -1) {
                    return rules;
                } else {
                    throw new Fault(1, i);
                }
            }
            throw new IllegalStateException(text);
        }

        static void deeper(StringBuilder stack, char sign, int place) {
            int opened = 0;
            for (int i = 0; i < stack.length(); i++) {
                if ("([!".indexOf(stack.charAt(i)) >= 0) {
                    opened++;
                }
            }
            if (opened == 6) {
                throw new Fault(5, place);
            }
            stack.append(sign);
        }

        static boolean isLetter(int sign) {
            return sign > 0 && "chsunmqatw".indexOf(sign) >= 0;
        }

        // ---- the law, reckoned from its text; a text is split at its outmost signs

        int asked;
        int draw;

        int byLaw(char kind) {
            for (String rule : split(lawText, ";", false)) {
                if (!rule.isEmpty() && rule.charAt(0) == kind && conditionHolds(rule)) {
                    try {
                        return Math.max(0, Math.min(99, sum(rule.substring(1, rule.indexOf('(')))));
                    } catch (Refused r) {
                        return 0;
                    }
                }
            }
            return 1;
        }

        boolean frozen() {
            for (String rule : split(lawText, ";", false)) {
                if (rule.startsWith("x") && conditionHolds(rule)) {
                    return true;
                }
            }
            return false;
        }

        boolean conditionHolds(String rule) {
            try {
                return condition(rule.substring(rule.indexOf('(') + 1, rule.length() - 1));
            } catch (Refused r) {
                return false;
            }
        }

        /** Parts between signs outside of all brackets; with their signs, each ahead of its part. */
        static List<String> split(String text, String signs, boolean keepSigns) {
            List<String> parts = new ArrayList<>();
            int depth = 0;
            StringBuilder part = new StringBuilder(keepSigns ? "+" : "");
            for (char sign : text.toCharArray()) {
                if (sign == '(' || sign == '[') {
                    depth++;
                }
                if (sign == ')' || sign == ']') {
                    depth--;
                }
                if (depth == 0 && signs.indexOf(sign) >= 0) {
                    parts.add(part.toString());
                    part = new StringBuilder(keepSigns ? "" + sign : "");
                } else {
                    part.append(sign);
                }
            }
            parts.add(part.toString());
            return parts;
        }

        boolean condition(String text) {
            for (String part : split(text, "|", false)) {
                boolean all = true;
                for (String test : split(part, "&", false)) {
                    if (!test(test)) {
                        all = false;
                        break;
                    }
                }
                if (all) {
                    return true;
                }
            }
            return false;
        }

        boolean test(String text) {
            if (text.charAt(0) == '!') {
                return !test(text.substring(1));
            }
            if (text.charAt(0) == '(') {
                return condition(text.substring(1, text.length() - 1));
            }
            List<String> sides = split(text, "<>=", false);
            int left = sum(sides.get(0));
            int right = sum(sides.get(1));
            char sign = text.charAt(sides.get(0).length());
            return sign == '<' ? left < right : sign == '>' ? left > right : left == right;
        }

        int sum(String text) {
            int all = 0;
            for (String term : split(text, "+-", true)) {
                int value = product(term.substring(1));
                all = term.charAt(0) == '+' ? all + value : all - value;
            }
            return all;
        }

        int product(String text) {
            int all = 1;
            for (String factor : split(text, "*/%", true)) {
                int value = factor(factor.substring(1));
                char sign = factor.charAt(0);
                if ((sign == '/' || sign == '%') && value == 0) {
                    throw new Refused();
                }
                all = sign == '/' ? all / value : sign == '%' ? all % value : all * value;
            }
            return all;
        }

        int factor(String text) {
            switch (text.charAt(0)) {
                case '[': return sum(text.substring(1, text.length() - 1));
                case 'c': return asked;
                case 'h': return height[asked];
                case 's': return sorrow[asked];
                case 'u': return turn[asked];
                case 'n': return besides(asked).size();
                case 'm': return besides(asked).stream().mapToInt(d -> sorrow[d]).max().orElse(0);
                case 'q': return wept[asked] / 100;
                case 'a': return sea / 100;
                case 't': return minute % 100;
                case 'w': return draw;
                default: return Integer.parseInt(text);
            }
        }

        List<Integer> besides(int c) {
            List<Integer> found = new ArrayList<>();
            for (int p = 0; p < pipes.size(); p++) {
                if (open[p] && pipes.get(p).from == c) {
                    found.add(pipes.get(p).to);
                }
                if (open[p] && pipes.get(p).to == c) {
                    found.add(pipes.get(p).from);
                }
            }
            return found;
        }

        // ---- minutes

        void drawFor(int c) {
            long next = (25173L * x + 13849L) % 65536L;
            x = (int) next;
            draw = x % 10;
            asked = c;
        }

        int oneMinute() {
            if (minute == 9999) {
                return 0;
            }
            for (int c = 0; c < 16; c++) {
                if (isTold(c)) {
                    drawFor(c);
                    int more = Math.min(byLaw('r'), Math.min(sea, 9999 - sorrow[c]));
                    sorrow[c] += more;
                    sea -= more;
                }
            }
            for (int p = 0; p < pipes.size(); p++) {
                if (open[p]) {
                    int a = pipes.get(p).from;
                    int b = pipes.get(p).to;
                    boolean aGives = height[a] + sorrow[a] > height[b] + sorrow[b];
                    int gives = aGives ? a : b;
                    int gets = aGives ? b : a;
                    int half = (height[gives] + sorrow[gives] - height[gets] - sorrow[gets]) / 2;
                    int much = Math.min(Math.min(pipes.get(p).width, half), Math.min(sorrow[gives], 9999 - sorrow[gets]));
                    sorrow[gives] -= much;
                    sorrow[gets] += much;
                }
            }
            int all = 0;
            for (int c = 0; c < 16; c++) {
                if (isTold(c) && turn[c] > 0) {
                    drawFor(c);
                    if (!frozen()) {
                        int out = Math.min(turn[c] * byLaw('o'), sorrow[c]);
                        wept[c] = Math.min(999999, wept[c] + out);
                        sorrow[c] -= out;
                        all += out;
                    }
                }
            }
            minute++;
            return all;
        }

        int minutes(int n) {
            if (n < 1 || n > 100) {
                return -1;
            }
            int all = 0;
            for (int i = 0; i < n; i++) {
                all += oneMinute();
            }
            return all;
        }

        int tried(int n, int what) {
            boolean isOne = what >= 0 && what <= 2 || what >= 10 && what < 26 && isTold(what - 10)
                    || what >= 30 && what < 46 && isTold(what - 30);
            if (n < 1 || n > 100 || !isOne) {
                return -1;
            }
            Kept before = snapshot();
            int out = minutes(n);
            int answer = what == 0 ? out : what == 1 ? sea : what == 2 ? Arrays.stream(sorrow).sum()
                    : what < 30 ? sorrow[what - 10] : wept[what - 30];
            restore(before);
            return answer;
        }

        int dry(int c, int n) {
            if (!isTold(c) || n < 1 || n > 100) {
                return -1;
            }
            Kept before = snapshot();
            int answer = sorrow[c] == 0 ? 0 : -2;
            for (int i = 1; i <= n && answer == -2; i++) {
                oneMinute();
                answer = sorrow[c] == 0 ? i : -2;
            }
            restore(before);
            return answer;
        }

        Kept snapshot() {
            Kept k = new Kept();
            k.told = told;
            k.pipes = pipes.size();
            k.sorrow = sorrow.clone();
            k.turn = turn.clone();
            k.wept = wept.clone();
            k.open = open.clone();
            k.sea = sea;
            k.minute = minute;
            k.x = x;
            return k;
        }

        void restore(Kept k) {
            for (int c = 0; c < 16; c++) {
                boolean both = isTold(c) && (k.told >> c & 1) == 1;
                sorrow[c] = both ? k.sorrow[c] : 0;
                turn[c] = both ? k.turn[c] : 0;
                wept[c] = both ? k.wept[c] : 0;
            }
            for (int p = 0; p < pipes.size(); p++) {
                open[p] = p >= k.pipes || k.open[p];
            }
            sea = k.sea;
            minute = k.minute;
            x = k.x;
        }

        int keep() {
            kept = snapshot();
            return minute;
        }

        int undo() {
            if (kept == null) {
                return 0;
            }
            restore(kept);
            return 1;
        }

        int seed(int s) {
            if (s < 0 || s > 65535) {
                return 0;
            }
            x = s;
            return 1;
        }

        // ---- questions of one

        int cornerIs(int c, int what) {
            if (!isTold(c) || what < 0 || what > 5) {
                return -1;
            }
            int bits = 0;
            for (int d : besides(c)) {
                bits |= 1 << d;
            }
            return new int[] {height[c], sorrow[c], turn[c], wept[c], besides(c).size(), bits}[what];
        }

        int pipeIs(int p, int what) {
            if (p < 0 || p >= pipes.size() || what < 0 || what > 3) {
                return -1;
            }
            Pipe pipe = pipes.get(p);
            return new int[] {pipe.from, pipe.to, pipe.width, open[p] ? 1 : 0}[what];
        }

        int count(int what) {
            if (what < 0 || what > 10) {
                return -1;
            }
            int opened = 0;
            for (int p = 0; p < pipes.size(); p++) {
                opened += open[p] ? 1 : 0;
            }
            return new int[] {minute, told, pipes.size(), opened, sea, ruleCount, tape.size(), x,
                Arrays.stream(sorrow).sum(), Arrays.stream(wept).sum(), groupsOf(openPipes())}[what];
        }

        // ---- the net

        List<Pipe> openPipes() {
            List<Pipe> found = new ArrayList<>();
            for (int p = 0; p < pipes.size(); p++) {
                if (open[p]) {
                    found.add(pipes.get(p));
                }
            }
            return found;
        }

        int groupOf(int c, List<Pipe> some) {
            int group = 1 << c;
            for (int round = 0; round < 16; round++) {
                for (Pipe p : some) {
                    if ((group >> p.from & 1) == 1 || (group >> p.to & 1) == 1) {
                        group |= 1 << p.from | 1 << p.to;
                    }
                }
            }
            return group;
        }

        int groupsOf(List<Pipe> some) {
            Set<Integer> groups = new HashSet<>();
            for (int c = 0; c < 16; c++) {
                if (isTold(c)) {
                    groups.add(groupOf(c, some));
                }
            }
            return groups.size();
        }

        int[][] allSteps() {
            int[][] far = new int[16][16];
            for (int[] row : far) {
                Arrays.fill(row, 99);
            }
            for (int c = 0; c < 16; c++) {
                far[c][c] = 0;
            }
            for (Pipe p : openPipes()) {
                far[p.from][p.to] = 1;
                far[p.to][p.from] = 1;
            }
            for (int k = 0; k < 16; k++) {
                for (int i = 0; i < 16; i++) {
                    for (int j = 0; j < 16; j++) {
                        far[i][j] = Math.min(far[i][j], far[i][k] + far[k][j]);
                    }
                }
            }
            return far;
        }

        boolean areTwo(int c, int d) {
            return isTold(c) && isTold(d) && c != d;
        }

        /** The least over all sides; the side itself is what all least ones share. */
        int[] leastCut(int c, int d, boolean each) {
            int group = groupOf(c, openPipes()) & ~(1 << c | 1 << d);
            int least = Integer.MAX_VALUE;
            int shared = 0;
            int part = group;
            while (true) {
                int side = part | 1 << c;
                int cost = 0;
                for (Pipe p : openPipes()) {
                    if ((side >> p.from & 1) != (side >> p.to & 1)) {
                        cost += each ? 1 : p.width;
                    }
                }
                if (cost < least) {
                    least = cost;
                    shared = side;
                } else if (cost == least) {
                    shared &= side;
                }
                if (part == 0) {
                    break;
                }
                part = part - 1 & group;
            }
            return new int[] {least, shared};
        }

        int most(int c, int d, int what) {
            return !areTwo(c, d) || what < 0 || what > 1 ? -1 : leastCut(c, d, false)[what];
        }

        int cut(int c, int d) {
            return areTwo(c, d) ? leastCut(c, d, true)[0] : -1;
        }

        int widest(int c, int d) {
            if (!areTwo(c, d)) {
                return -1;
            }
            for (int width = 99; width >= 1; width--) {
                List<Pipe> wide = new ArrayList<>();
                for (Pipe p : openPipes()) {
                    if (p.width >= width) {
                        wide.add(p);
                    }
                }
                if ((groupOf(c, wide) >> d & 1) == 1) {
                    return width;
                }
            }
            return -2;
        }

        int steps(int c, int d) {
            if (!isTold(c) || !isTold(d)) {
                return -1;
            }
            int far = allSteps()[c][d];
            return far >= 99 ? -2 : far;
        }

        int bridges(int what) {
            if (what < 0 || what > 1) {
                return -1;
            }
            int many = 0;
            int first = -2;
            List<Pipe> all = openPipes();
            int groups = groupsOf(all);
            for (int p = 0; p < pipes.size(); p++) {
                if (open[p]) {
                    open[p] = false;
                    if (groupsOf(openPipes()) > groups) {
                        many++;
                        first = first == -2 ? p : first;
                    }
                    open[p] = true;
                }
            }
            return what == 0 ? many : first;
        }

        int brigades(int k, int what) {
            if (k < 1 || k > 5 || what < 0 || what > 1) {
                return -1;
            }
            int[][] far = allSteps();
            int least = 99;
            int bits = -2;
            for (int set = 1; set < 65536; set++) {
                if (Integer.bitCount(set) != k || (set & ~told) != 0) {
                    continue;
                }
                int worst = 0;
                for (int c = 0; c < 16; c++) {
                    if (isTold(c)) {
                        int nearest = 99;
                        for (int d = 0; d < 16; d++) {
                            if ((set >> d & 1) == 1) {
                                nearest = Math.min(nearest, far[c][d]);
                            }
                        }
                        worst = Math.max(worst, nearest);
                    }
                }
                if (worst < least) {
                    least = worst;
                    bits = set;
                }
            }
            return least == 99 ? -2 : what == 0 ? least : bits;
        }

        int painted(int c) {
            if (!isTold(c)) {
                return -1;
            }
            List<Pipe> some = new ArrayList<>();
            int group = groupOf(c, openPipes());
            for (Pipe p : openPipes()) {
                if ((group >> p.from & 1) == 1) {
                    some.add(p);
                }
            }
            return some.size() <= 11 ? walkAll(c, some) : some.size() + pairUp(oddOf(some), allSteps(), new HashMap<>());
        }

        /** The shortest walk over all states: where one is, and which pipes are painted. */
        static int walkAll(int c, List<Pipe> some) {
            int all = (1 << some.size()) - 1;
            int[] gone = new int[all + 1 << 4];
            Arrays.fill(gone, -1);
            ArrayDeque<Integer> queue = new ArrayDeque<>();
            gone[c] = 0;
            queue.add(c);
            while (!queue.isEmpty()) {
                int state = queue.remove();
                if (state == (all << 4 | c)) {
                    return gone[state];
                }
                for (int p = 0; p < some.size(); p++) {
                    int at = state & 15;
                    int to = some.get(p).from == at ? some.get(p).to : some.get(p).to == at ? some.get(p).from : -1;
                    int next = (state >> 4 | 1 << p) << 4 | to;
                    if (to >= 0 && gone[next] < 0) {
                        gone[next] = gone[state] + 1;
                        queue.add(next);
                    }
                }
            }
            throw new IllegalStateException();
        }

        static int oddOf(List<Pipe> some) {
            int odd = 0;
            for (Pipe p : some) {
                odd ^= 1 << p.from ^ 1 << p.to;
            }
            return odd;
        }

        static int pairUp(int odd, int[][] far, Map<Integer, Integer> known) {
            if (odd == 0) {
                return 0;
            }
            if (!known.containsKey(odd)) {
                int high = 31 - Integer.numberOfLeadingZeros(odd);
                int least = 999;
                for (int d = 0; d < high; d++) {
                    if ((odd >> d & 1) == 1) {
                        least = Math.min(least, far[high][d] + pairUp(odd & ~(1 << high | 1 << d), far, known));
                    }
                }
                known.put(odd, least);
            }
            return known.get(odd);
        }

        int keptOpen() {
            List<Pipe> all = openPipes();
            int groups = groupsOf(all);
            if (all.size() > 11) {
                return byWidth(all, groups);
            }
            int best = 0;
            int fewest = 99;
            for (int set = 0; set < 1 << all.size(); set++) {
                List<Pipe> some = new ArrayList<>();
                int width = 0;
                for (int p = 0; p < all.size(); p++) {
                    if ((set >> p & 1) == 1) {
                        some.add(all.get(p));
                        width += all.get(p).width;
                    }
                }
                if (some.size() > fewest || groupsOf(some) != groups) {
                    continue;
                }
                if (some.size() < fewest || width > best) {
                    best = width;
                    fewest = some.size();
                }
            }
            return best;
        }

        /** From the narrowest on, each pipe is left out without which all still hang together. */
        int byWidth(List<Pipe> all, int groups) {
            List<Pipe> some = new ArrayList<>(all);
            some.sort((p, q) -> p.width - q.width);
            for (int i = 0; i < some.size();) {
                Pipe p = some.remove(i);
                if (groupsOf(some) != groups) {
                    some.add(i, p);
                    i++;
                }
            }
            return some.stream().mapToInt(p -> p.width).sum();
        }

        int farthest(int what) {
            if (what < 0 || what > 2) {
                return -1;
            }
            if (told == 0) {
                return -2;
            }
            int[][] far = allSteps();
            int[] best = {-1, -1, -1};
            for (int c = 0; c < 16; c++) {
                for (int d = c; d < 16; d++) {
                    if (isTold(c) && isTold(d) && far[c][d] < 99 && far[c][d] > best[0]) {
                        best = new int[] {far[c][d], c, d};
                    }
                }
            }
            return best[what];
        }

        int ring(int c) {
            return isTold(c) ? ringOn(c, c, 0, 0) : -1;
        }

        /** All trails from c back to it, none longer than sixteen. */
        int ringOn(int c, int at, int used, int gone) {
            int least = -2;
            for (int p = 0; p < pipes.size(); p++) {
                Pipe pipe = pipes.get(p);
                if (!open[p] || (used >> p & 1) == 1 || pipe.from != at && pipe.to != at) {
                    continue;
                }
                int to = pipe.from == at ? pipe.to : pipe.from;
                int found = to == c ? gone + 1 : (visited(c, used) >> to & 1) == 1 ? -2 : ringOn(c, to, used | 1 << p, gone + 1);
                if (found != -2 && (least == -2 || found < least)) {
                    least = found;
                }
            }
            return least;
        }

        int visited(int c, int used) {
            int bits = 1 << c;
            for (int p = 0; p < pipes.size(); p++) {
                if ((used >> p & 1) == 1) {
                    bits |= 1 << pipes.get(p).from | 1 << pipes.get(p).to;
                }
            }
            return bits;
        }

        int highest(int what) {
            if (what < 0 || what > 1) {
                return -1;
            }
            int who = -2;
            for (int c = 15; c >= 0; c--) {
                if (isTold(c) && (who == -2 || height[c] + sorrow[c] >= height[who] + sorrow[who])) {
                    who = c;
                }
            }
            return what == 0 || who == -2 ? who : height[who] + sorrow[who];
        }

        int longest(int c, int what) {
            if (!isTold(c) || what < 0 || what > 1) {
                return -1;
            }
            int best = walkOn(c, 1 << c, 0);
            return what == 0 ? best / 16 : 15 - best % 16;
        }

        int walkOn(int c, int seen, int gone) {
            int best = gone * 16 + 15 - c;
            for (int d : new HashSet<>(besides(c))) {
                if ((seen >> d & 1) == 0) {
                    best = Math.max(best, walkOn(d, seen | 1 << d, gone + 1));
                }
            }
            return best;
        }

        // ---- bytes

        int byEighths(int n, int sum, int what) {
            if (n < 1 || n > 8 || sum < 0 || sum > 16320 || what < 0 || what > 1 || n > tape.size()) {
                return -1;
            }
            int[] gives = take(n);
            int[] ways = new int[sum + 1];
            int[] few = new int[sum + 1];
            Arrays.fill(few, 999);
            ways[0] = 1;
            few[0] = 0;
            for (int give : gives) {
                int[] newWays = new int[sum + 1];
                int[] newFew = new int[sum + 1];
                Arrays.fill(newFew, 999);
                for (int s = 0; s <= sum; s++) {
                    for (int k = 0; k <= 8 && k * give <= s; k++) {
                        newWays[s] += ways[s - k * give];
                        newFew[s] = Math.min(newFew[s], few[s - k * give] + k);
                    }
                }
                ways = newWays;
                few = newFew;
            }
            return what == 0 ? ways[sum] : ways[sum] == 0 ? -2 : few[sum];
        }

        int readings(int what) {
            int corners = Integer.bitCount(told);
            if (what < 0 || what > 2 || corners == 0 || tape.size() < 2 * corners) {
                return -1;
            }
            int[] bytes = take(2 * corners);
            int[] answers = {0, -2, 0};
            int greatest = 0;
            int at = 0;
            for (int c = 0; c < 16; c++) {
                if (isTold(c)) {
                    int lost = bytes[at] - bytes[at + 1];
                    at += 2;
                    if (lost > 0) {
                        answers[0] += 1 << c;
                        answers[2] += lost;
                    }
                    if (lost > greatest) {
                        greatest = lost;
                        answers[1] = c;
                    }
                }
            }
            return answers[what];
        }

        int hose(int n, int m, int what) {
            if (n < 1 || n > 12 || m < 1 || m > 6 || what != 100 && (what < 0 || what >= n) || tape.size() < n * m) {
                return -1;
            }
            int[] bytes = take(n * m);
            int[] free = new int[m];
            int[] given = new int[n];
            for (int f = 0; f < n; f++) {
                int best = m - 1;
                for (int b = m - 1; b >= 0; b--) {
                    if (free[b] + 2 * bytes[f * m + b] <= free[best] + 2 * bytes[f * m + best]) {
                        best = b;
                    }
                }
                free[best] += 2 * bytes[f * m + best];
                given[f] = best;
            }
            return what == 100 ? Arrays.stream(free).max().orElse(0) : given[what];
        }

        int check(int n) {
            if (n < 0 || n > 16 || n > tape.size()) {
                return -2;
            }
            int[] bytes = take(n);
            for (int c = 0; c < n; c++) {
                if (bytes[c] != (isTold(c) ? turn[c] : 255)) {
                    return c;
                }
            }
            return -1;
        }
    }
}
