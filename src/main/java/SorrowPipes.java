import java.util.Arrays;

/** A town over an old sea, its hydrants, and what may be asked of them: README.md says how it is used. */
public final class SorrowPipes {
    public static final int NONE = -1;

    private static final int NOT_SO = -2;
    private static final int CORNERS = 16;
    private static final int PIPES = 24;
    private static final int WIDEST_PIPE = 99;
    private static final int TAPE = 260;
    private static final int FED = 20;

    private static final int LAW_BYTES = 240;
    private static final int TOWN_BYTES = 160;
    private static final int ORDER_BYTES = 120;
    private static final int TOWN_LINES = 24;
    private static final int ORDER_LINES = 20;
    private static final int RULES = 16;
    private static final int DEEPEST = 6;

    private static final int MISPLACED = 1;
    private static final int DIGIT_TOO_MANY = 2;
    private static final int NO_WIDTH = 3;
    private static final int LINE_TOO_MANY = 4;
    private static final int ONE_TOO_MANY = 5;
    private static final int TO_ITSELF = 6;
    private static final int NOT_THERE = 7;

    private static final int MOST_SORROW = 9999;
    private static final int MOST_WEPT = 999999;
    private static final int FIRST_SEA = 9999;
    private static final int LAST_MINUTE = 9999;
    private static final int MOST_MINUTES = 100;
    private static final int MOST_BY_LAW = 99;
    private static final int MOST_TURN = 8;
    private static final int SEEDS = 65536;

    private static final int MOST_BRIGADES = 5;
    private static final int MOST_HYDRANTS = 8;
    private static final int MOST_FROM_HYDRANTS = 16320;
    private static final int MOST_FIRES = 12;
    private static final int MOST_HOSES = 6;
    private static final int LAST_FIRE_OUT = 100;
    private static final int UNTOLD_BYTE = 255;

    private final Tape tape;
    private final Streets streets;
    private final Streets newStreets;
    private final Law rules;
    private final Law newRules;
    private final Orders lines;
    private final State now;
    private final State past;
    private final State trial;
    private final Tide tide;
    private final Net net;
    private final Flow flow;
    private final Walks walks;
    private final Eighths eighths;
    private final int[] busy;
    private boolean hasPast;

    public SorrowPipes() {
        tape = new Tape();
        streets = new Streets();
        newStreets = new Streets();
        rules = new Law();
        newRules = new Law();
        lines = new Orders();
        now = new State();
        past = new State();
        trial = new State();
        tide = new Tide(streets, rules, now);
        net = new Net(streets);
        flow = new Flow(streets);
        walks = new Walks(streets, net);
        eighths = new Eighths();
        busy = new int[MOST_HOSES];
    }

    public int feed(int a, int b, int c, int d, int e) {
        if (tape.held + FED > TAPE) {
            return NONE;
        }
        tape.put(a);
        tape.put(b);
        tape.put(c);
        tape.put(d);
        tape.put(e);
        return tape.held;
    }

    public int law(int n) {
        if (!tape.gives(n, 1, LAW_BYTES)) {
            return NONE;
        }
        if (!newRules.readFrom(tape)) {
            return tape.fault;
        }
        rules.become(newRules);
        return rules.size;
    }

    public int town(int n) {
        if (!tape.gives(n, 1, TOWN_BYTES)) {
            return NONE;
        }
        if (!newStreets.readFrom(tape)) {
            return tape.fault;
        }
        streets.become(newStreets);
        now.settle(streets.told, streets.pipes);
        return streets.pipes;
    }

    public int orders(int n) {
        if (!tape.gives(n, 1, ORDER_BYTES)) {
            return NONE;
        }
        if (!lines.readFrom(tape, streets)) {
            return tape.fault;
        }
        lines.carryOut(now);
        return lines.size;
    }

    public int minutes(int n) {
        return isSpan(n) ? tide.pass(n, now) : NONE;
    }

    public int tried(int n, int what) {
        boolean ofAll = what >= 0 && what <= 2;
        boolean ofSorrow = streets.isTold(what - 10);
        boolean ofWept = streets.isTold(what - 30);
        if (!isSpan(n) || !ofAll && !ofSorrow && !ofWept) {
            return NONE;
        }
        trial.become(now);
        int out = tide.pass(n, trial);
        if (ofSorrow) {
            return trial.sorrow[what - 10];
        }
        if (ofWept) {
            return trial.wept[what - 30];
        }
        return what == 0 ? out : what == 1 ? trial.sea : trial.allSorrow();
    }

    public int cornerIs(int c, int what) {
        if (!streets.isTold(c)) {
            return NONE;
        }
        switch (what) {
            case 0: return streets.height[c];
            case 1: return now.sorrow[c];
            case 2: return now.turn[c];
            case 3: return now.wept[c];
            case 4: return streets.openPipesOf(c, now.open);
            case 5: return streets.besides(c, now.open);
            default: return NONE;
        }
    }

    public int pipeIs(int p, int what) {
        if (p < 0 || p >= streets.pipes) {
            return NONE;
        }
        switch (what) {
            case 0: return streets.from[p];
            case 1: return streets.to[p];
            case 2: return streets.width[p];
            case 3: return now.open >> p & 1;
            default: return NONE;
        }
    }

    public int dry(int c, int n) {
        if (!streets.isTold(c) || !isSpan(n)) {
            return NONE;
        }
        trial.become(now);
        for (int gone = 0; gone <= n; gone++) {
            if (trial.sorrow[c] == 0) {
                return gone;
            }
            tide.pass(1, trial);
        }
        return NOT_SO;
    }

    public int most(int c, int d, int what) {
        if (!areTwo(c, d) || what < 0 || what > 1) {
            return NONE;
        }
        int much = flow.push(c, d, now.open, false);
        return what == 0 ? much : flow.side;
    }

    public int cut(int c, int d) {
        return areTwo(c, d) ? flow.push(c, d, now.open, true) : NONE;
    }

    public int widest(int c, int d) {
        if (!areTwo(c, d)) {
            return NONE;
        }
        net.look(now.open);
        return net.widestWay(c, d);
    }

    public int steps(int c, int d) {
        if (!streets.isTold(c) || !streets.isTold(d)) {
            return NONE;
        }
        net.look(now.open);
        return net.stepsBetween(c, d);
    }

    public int bridges(int what) {
        if (what < 0 || what > 1) {
            return NONE;
        }
        int bits = net.bridgeBits(now.open);
        if (what == 0) {
            return Integer.bitCount(bits);
        }
        return bits == 0 ? NOT_SO : lowest(bits);
    }

    public int brigades(int k, int what) {
        if (k < 1 || k > MOST_BRIGADES || what < 0 || what > 1) {
            return NONE;
        }
        net.look(now.open);
        int stand = net.bestStand(k);
        if (stand < 0) {
            return NOT_SO;
        }
        return what == 0 ? stand >> CORNERS : stand & (1 << CORNERS) - 1;
    }

    public int painted(int c) {
        if (!streets.isTold(c)) {
            return NONE;
        }
        net.look(now.open);
        return walks.paintAll(c, now.open);
    }

    public int keptOpen() {
        return net.widthToHold(now.open);
    }

    public int farthest(int what) {
        if (what < 0 || what > 2) {
            return NONE;
        }
        if (streets.told == 0) {
            return NOT_SO;
        }
        net.look(now.open);
        int pair = net.farthestPair();
        return what == 0 ? pair >> 8 : what == 1 ? pair >> 4 & 15 : pair & 15;
    }

    public int ring(int c) {
        return streets.isTold(c) ? net.leastRing(c, now.open) : NONE;
    }

    public int highest(int what) {
        if (what < 0 || what > 1) {
            return NONE;
        }
        int who = NOT_SO;
        int high = NOT_SO;
        for (int c = 0; c < CORNERS; c++) {
            if (streets.isTold(c) && streets.height[c] + now.sorrow[c] > high) {
                who = c;
                high = streets.height[c] + now.sorrow[c];
            }
        }
        return what == 0 ? who : high;
    }

    public int longest(int c, int what) {
        if (!streets.isTold(c) || what < 0 || what > 1) {
            return NONE;
        }
        net.look(now.open);
        walks.goFar(c);
        return what == 0 ? walks.gone : walks.end;
    }

    public int byEighths(int n, int sum, int what) {
        boolean isAsked = sum >= 0 && sum <= MOST_FROM_HYDRANTS && what >= 0 && what <= 1;
        if (!isAsked || !tape.gives(n, 1, MOST_HYDRANTS)) {
            return NONE;
        }
        eighths.reckon(tape, n, sum);
        if (what == 0) {
            return eighths.ways;
        }
        return eighths.ways == 0 ? NOT_SO : eighths.fewest;
    }

    public int readings(int what) {
        int needed = 2 * Integer.bitCount(streets.told);
        if (what < 0 || what > 2 || !tape.gives(needed, 2, 2 * CORNERS)) {
            return NONE;
        }
        int bits = 0;
        int where = NOT_SO;
        int most = 0;
        int all = 0;
        int place = 0;
        for (int c = 0; c < CORNERS; c++) {
            if (!streets.isTold(c)) {
                continue;
            }
            int lost = tape.byteAt(place) - tape.byteAt(place + 1);
            place += 2;
            if (lost > 0) {
                bits |= 1 << c;
                all += lost;
            }
            if (lost > most) {
                most = lost;
                where = c;
            }
        }
        return what == 0 ? bits : what == 1 ? where : all;
    }

    public int hose(int n, int m, int what) {
        boolean areSuch = n >= 1 && n <= MOST_FIRES && m >= 1 && m <= MOST_HOSES;
        boolean isAsked = what == LAST_FIRE_OUT || what >= 0 && what < n;
        if (!areSuch || !isAsked || !tape.gives(n * m, 1, MOST_FIRES * MOST_HOSES)) {
            return NONE;
        }
        Arrays.fill(busy, 0);
        int last = 0;
        for (int fire = 0; fire < n; fire++) {
            int first = 0;
            int out = busy[0] + 2 * tape.byteAt(fire * m);
            for (int b = 1; b < m; b++) {
                int by = busy[b] + 2 * tape.byteAt(fire * m + b);
                if (by < out) {
                    first = b;
                    out = by;
                }
            }
            if (fire == what) {
                return first;
            }
            busy[first] = out;
            last = Math.max(last, out);
        }
        return last;
    }

    public boolean seed(int x) {
        if (x < 0 || x >= SEEDS) {
            return false;
        }
        now.x = x;
        return true;
    }

    public int keep() {
        past.become(now);
        hasPast = true;
        return now.minute;
    }

    public boolean undo() {
        if (hasPast) {
            now.comeBackTo(past);
        }
        return hasPast;
    }

    public int check(int n) {
        if (!tape.gives(n, 0, CORNERS)) {
            return NOT_SO;
        }
        for (int c = 0; c < n; c++) {
            int due = streets.isTold(c) ? now.turn[c] : UNTOLD_BYTE;
            if (tape.byteAt(c) != due) {
                return c;
            }
        }
        return NONE;
    }

    public int count(int what) {
        switch (what) {
            case 0: return now.minute;
            case 1: return streets.told;
            case 2: return streets.pipes;
            case 3: return Integer.bitCount(now.open);
            case 4: return now.sea;
            case 5: return rules.size;
            case 6: return tape.held;
            case 7: return now.x;
            case 8: return now.allSorrow();
            case 9: return now.allWept();
            case 10: return net.groups(now.open);
            default: return NONE;
        }
    }

    private boolean areTwo(int c, int d) {
        return streets.isTold(c) && streets.isTold(d) && c != d;
    }

    private static boolean isSpan(int n) {
        return n >= 1 && n <= MOST_MINUTES;
    }

    private static boolean hasBit(int bits, int place) {
        return (bits >> place & 1) == 1;
    }

    /** The place of the lowest bit (32 for no bits). */
    private static int lowest(int bits) {
        return Integer.bitCount((bits & -bits) - 1);
    }

    /** What was fed, and the place to which a text on it has been read. */
    private static final class Tape {
        final int[] bytes = new int[TAPE];
        int held;
        int at;
        int end;
        int fault;

        void put(int word) {
            for (int shift = 24; shift >= 0; shift -= 8) {
                if (held < bytes.length) {
                    bytes[held] = word >>> shift & 255;
                    held++;
                }
            }
        }

        /** Empties the tape for the first n bytes; they stay readable until the next feed. */
        boolean gives(int n, int least, int greatest) {
            if (n < least || n > greatest || n > held) {
                return false;
            }
            held = 0;
            at = 0;
            end = n;
            fault = 0;
            return true;
        }

        int byteAt(int place) {
            return place >= 0 && place < end ? bytes[place] : 0;
        }

        boolean isAtEnd() {
            return at >= end;
        }

        /** NONE at the end: no byte is like it, so nothing can stand there by mistake. */
        int peek() {
            return at < end ? bytes[at] : NONE;
        }

        boolean isAtCorner() {
            int sign = peek();
            return sign >= 'a' && sign < 'a' + CORNERS;
        }

        boolean refuse(int number, int place) {
            fault = -1000 * number - place;
            return false;
        }

        boolean takes(int sign) {
            if (peek() != sign) {
                return false;
            }
            at++;
            return true;
        }

        boolean demands(int sign) {
            if (peek() != sign) {
                return refuse(MISPLACED, at);
            }
            at++;
            return true;
        }

        /** A number of one to so many digits; NONE: a fault. */
        int readNumber(int digits) {
            int number = 0;
            for (int read = 0; read <= digits; read++) {
                int digit = peek() - '0';
                boolean isDigit = digit >= 0 && digit <= 9;
                if (!isDigit && read > 0) {
                    return number;
                }
                if (!isDigit || read == digits) {
                    refuse(isDigit ? DIGIT_TOO_MANY : MISPLACED, at);
                    return NONE;
                }
                number = number * 10 + digit;
                at++;
            }
            return NONE;
        }
    }

    /** The town as it was told: what no minute and no order changes. */
    private static final class Streets {
        final int[] height = new int[CORNERS];
        final int[] from = new int[PIPES];
        final int[] to = new int[PIPES];
        final int[] width = new int[PIPES];
        int told;
        int pipes;

        boolean isTold(int c) {
            return c >= 0 && c < CORNERS && hasBit(told, c);
        }

        /** The corner at the other end of a pipe; NONE if the pipe does not end at c. */
        int across(int pipe, int c) {
            if (from[pipe] == c) {
                return to[pipe];
            }
            return to[pipe] == c ? from[pipe] : NONE;
        }

        int openPipesOf(int c, int open) {
            int found = 0;
            for (int p = 0; p < pipes; p++) {
                if (hasBit(open, p) && across(p, c) != NONE) {
                    found++;
                }
            }
            return found;
        }

        int besides(int c, int open) {
            int bits = 0;
            for (int p = 0; p < pipes; p++) {
                int other = across(p, c);
                if (hasBit(open, p) && other != NONE) {
                    bits |= 1 << other;
                }
            }
            return bits;
        }

        void become(Streets other) {
            System.arraycopy(other.height, 0, height, 0, CORNERS);
            System.arraycopy(other.from, 0, from, 0, PIPES);
            System.arraycopy(other.to, 0, to, 0, PIPES);
            System.arraycopy(other.width, 0, width, 0, PIPES);
            told = other.told;
            pipes = other.pipes;
        }

        boolean readFrom(Tape text) {
            Arrays.fill(height, 0);
            told = 0;
            pipes = 0;
            for (int line = 0; line <= TOWN_LINES; line++) {
                if (!text.isAtCorner()) {
                    return text.refuse(MISPLACED, text.at);
                }
                if (line == TOWN_LINES) {
                    return text.refuse(LINE_TOO_MANY, text.at);
                }
                if (!readLine(text)) {
                    return false;
                }
                if (text.isAtEnd()) {
                    return true;
                }
                if (!text.demands(';')) {
                    return false;
                }
            }
            return false;
        }

        private boolean readLine(Tape text) {
            int corner = readCorner(text);
            if (text.takes('=')) {
                int high = text.readNumber(2);
                if (high == NONE) {
                    return false;
                }
                height[corner] = high;
                return true;
            }
            for (int road = 0; road <= PIPES && text.peek() == '-'; road++) {
                if (!readRoad(text, corner)) {
                    return false;
                }
                corner = to[pipes - 1];
            }
            return true;
        }

        private boolean readRoad(Tape text, int ahead) {
            if (pipes >= PIPES) {
                return text.refuse(ONE_TOO_MANY, text.at);
            }
            text.at++;
            if (!text.isAtCorner()) {
                return text.refuse(MISPLACED, text.at);
            }
            if (text.peek() - 'a' == ahead) {
                return text.refuse(TO_ITSELF, text.at);
            }
            int corner = readCorner(text);
            int first = text.at;
            int wide = text.readNumber(2);
            if (wide == NONE) {
                return false;
            }
            if (wide == 0) {
                return text.refuse(NO_WIDTH, first);
            }
            from[pipes] = ahead;
            to[pipes] = corner;
            width[pipes] = wide;
            pipes++;
            return true;
        }

        private int readCorner(Tape text) {
            int corner = text.peek() - 'a';
            told |= 1 << corner;
            text.at++;
            return corner;
        }
    }

    /** What minutes and orders change; told and pipes say of which town it is. */
    private static final class State {
        final int[] sorrow = new int[CORNERS];
        final int[] turn = new int[CORNERS];
        final int[] wept = new int[CORNERS];
        int open;
        int sea = FIRST_SEA;
        int minute;
        int x = 1;
        int told;
        int pipes;

        void settle(int newTold, int newPipes) {
            Arrays.fill(sorrow, 0);
            Arrays.fill(turn, 0);
            Arrays.fill(wept, 0);
            told = newTold;
            pipes = newPipes;
            open = (1 << newPipes) - 1;
        }

        void become(State other) {
            System.arraycopy(other.sorrow, 0, sorrow, 0, CORNERS);
            System.arraycopy(other.turn, 0, turn, 0, CORNERS);
            System.arraycopy(other.wept, 0, wept, 0, CORNERS);
            open = other.open;
            sea = other.sea;
            minute = other.minute;
            x = other.x;
            told = other.told;
            pipes = other.pipes;
        }

        void comeBackTo(State then) {
            int both = told & then.told;
            for (int c = 0; c < CORNERS; c++) {
                boolean wasTold = hasBit(both, c);
                sorrow[c] = wasTold ? then.sorrow[c] : 0;
                turn[c] = wasTold ? then.turn[c] : 0;
                wept[c] = wasTold ? then.wept[c] : 0;
            }
            int beyondThen = -(1 << then.pipes);
            open = (then.open | beyondThen) & (1 << pipes) - 1;
            sea = then.sea;
            minute = then.minute;
            x = then.x;
        }

        int drawNumber() {
            x = (25173 * x + 13849) % SEEDS;
            return x % 10;
        }

        int allSorrow() {
            int all = 0;
            for (int c = 0; c < CORNERS; c++) {
                all += sorrow[c];
            }
            return all;
        }

        int allWept() {
            int all = 0;
            for (int c = 0; c < CORNERS; c++) {
                all += wept[c];
            }
            return all;
        }
    }

    /** Orders are read to the end before one is carried out: with a fault nothing is done. */
    private static final class Orders {
        final int[] kinds = new int[ORDER_LINES];
        final int[] whose = new int[ORDER_LINES];
        final int[] amounts = new int[ORDER_LINES];
        int size;

        boolean readFrom(Tape text, Streets streets) {
            size = 0;
            for (int line = 0; line <= ORDER_LINES; line++) {
                int first = text.peek();
                boolean canStand = text.isAtCorner() || first == '#' || first == '~';
                if (!canStand) {
                    return text.refuse(MISPLACED, text.at);
                }
                if (line == ORDER_LINES) {
                    return text.refuse(LINE_TOO_MANY, text.at);
                }
                if (!readLine(text, streets)) {
                    return false;
                }
                if (text.isAtEnd()) {
                    return true;
                }
                if (!text.demands(';')) {
                    return false;
                }
            }
            return false;
        }

        private boolean readLine(Tape text, Streets streets) {
            if (text.takes('#')) {
                return readPipe(text, streets);
            }
            if (text.takes('~')) {
                return readAmount(text, '~', 0, 6);
            }
            int corner = text.peek() - 'a';
            if (!streets.isTold(corner)) {
                return text.refuse(NOT_THERE, text.at);
            }
            text.at++;
            if (text.takes('@')) {
                return readTurn(text, corner);
            }
            if (text.takes('+')) {
                return readAmount(text, '+', corner, 4);
            }
            return text.demands('-') && readAmount(text, '-', corner, 4);
        }

        private boolean readPipe(Tape text, Streets streets) {
            int first = text.at;
            int pipe = text.readNumber(2);
            if (pipe == NONE) {
                return false;
            }
            if (pipe >= streets.pipes) {
                return text.refuse(NOT_THERE, first);
            }
            if (text.takes('!')) {
                return note('!', pipe, 0);
            }
            return text.demands('?') && note('?', pipe, 0);
        }

        private boolean readTurn(Tape text, int corner) {
            int turn = text.peek() - '0';
            if (turn < 0 || turn > MOST_TURN) {
                return text.refuse(MISPLACED, text.at);
            }
            text.at++;
            return note('@', corner, turn);
        }

        private boolean readAmount(Tape text, int kind, int corner, int digits) {
            int amount = text.readNumber(digits);
            return amount != NONE && note(kind, corner, amount);
        }

        private boolean note(int kind, int who, int amount) {
            if (size >= ORDER_LINES) {
                return false;
            }
            kinds[size] = kind;
            whose[size] = who;
            amounts[size] = amount;
            size++;
            return true;
        }

        void carryOut(State state) {
            for (int i = 0; i < size; i++) {
                int who = whose[i];
                switch (kinds[i]) {
                    case '@':
                        state.turn[who] = amounts[i];
                        break;
                    case '+':
                        state.sorrow[who] = Math.min(MOST_SORROW, state.sorrow[who] + amounts[i]);
                        break;
                    case '-':
                        state.sorrow[who] = Math.max(0, state.sorrow[who] - amounts[i]);
                        break;
                    case '!':
                        state.open &= ~(1 << who);
                        break;
                    case '?':
                        state.open |= 1 << who;
                        break;
                    default:
                        state.sea = amounts[i];
                        break;
                }
            }
        }
    }

    /**
     * The law, put into signs that are worked from the left on a stack: minutes ask it so often that
     * its text is read once only. A sign is the text's own; '0' is a number, 'a' a letter.
     */
    private static final class Law {
        final int[] signs = new int[LAW_BYTES];
        final int[] values = new int[LAW_BYTES];
        final int[] kinds = new int[RULES];
        final int[] firsts = new int[RULES];
        final int[] middles = new int[RULES];
        final int[] lasts = new int[RULES];
        int length;
        int size;

        void become(Law other) {
            System.arraycopy(other.signs, 0, signs, 0, LAW_BYTES);
            System.arraycopy(other.values, 0, values, 0, LAW_BYTES);
            System.arraycopy(other.kinds, 0, kinds, 0, RULES);
            System.arraycopy(other.firsts, 0, firsts, 0, RULES);
            System.arraycopy(other.middles, 0, middles, 0, RULES);
            System.arraycopy(other.lasts, 0, lasts, 0, RULES);
            length = other.length;
            size = other.size;
        }

        boolean readFrom(Tape text) {
            length = 0;
            size = 0;
            for (int rule = 0; rule <= RULES; rule++) {
                int kind = text.peek();
                if (kind != 'r' && kind != 'o' && kind != 'x') {
                    return text.refuse(MISPLACED, text.at);
                }
                if (rule == RULES) {
                    return text.refuse(LINE_TOO_MANY, text.at);
                }
                text.at++;
                kinds[rule] = kind;
                firsts[rule] = length;
                if (kind != 'x' && !readSum(text, 0)) {
                    return false;
                }
                middles[rule] = length;
                if (!text.demands('(') || !readCondition(text, 1) || !text.demands(')')) {
                    return false;
                }
                lasts[rule] = length;
                size = rule + 1;
                if (text.isAtEnd()) {
                    return true;
                }
                if (!text.demands(';')) {
                    return false;
                }
            }
            return false;
        }

        private boolean readCondition(Tape text, int opened) {
            int ands = NONE;
            int ors = NONE;
            for (int test = 0; test < LAW_BYTES; test++) {
                if (!readTest(text, opened)) {
                    return false;
                }
                if (text.takes('&')) {
                    ands = write('&', ands);
                    continue;
                }
                land(ands);
                ands = NONE;
                if (!text.takes('|')) {
                    land(ors);
                    return true;
                }
                ors = write('|', ors);
            }
            return false;
        }

        private boolean readTest(Tape text, int opened) {
            int inside = opened;
            while (inside < DEEPEST && text.peek() == '!') {
                text.at++;
                inside++;
            }
            int sign = text.peek();
            if (inside >= DEEPEST && (sign == '!' || sign == '(')) {
                return text.refuse(ONE_TOO_MANY, text.at);
            }
            if (sign == '(') {
                text.at++;
                if (!readCondition(text, inside + 1) || !text.demands(')')) {
                    return false;
                }
            } else {
                if (!readSum(text, inside)) {
                    return false;
                }
                int than = text.peek();
                if (than != '<' && than != '>' && than != '=') {
                    return text.refuse(MISPLACED, text.at);
                }
                text.at++;
                if (!readSum(text, inside)) {
                    return false;
                }
                write(than, 0);
            }
            for (int nots = opened; nots < inside; nots++) {
                write('!', 0);
            }
            return true;
        }

        private boolean readSum(Tape text, int opened) {
            int sum = 0;
            int product = 0;
            for (int factor = 0; factor < LAW_BYTES; factor++) {
                if (!readFactor(text, opened)) {
                    return false;
                }
                if (product != 0) {
                    write(product, 0);
                }
                product = 0;
                int sign = text.peek();
                if (sign == '*' || sign == '/' || sign == '%') {
                    product = sign;
                    text.at++;
                    continue;
                }
                if (sum != 0) {
                    write(sum, 0);
                }
                if (sign != '+' && sign != '-') {
                    return true;
                }
                sum = sign;
                text.at++;
            }
            return false;
        }

        private boolean readFactor(Tape text, int opened) {
            int sign = text.peek();
            if (sign == '[') {
                if (opened >= DEEPEST) {
                    return text.refuse(ONE_TOO_MANY, text.at);
                }
                text.at++;
                return readSum(text, opened + 1) && text.demands(']');
            }
            if (sign >= '0' && sign <= '9') {
                int number = text.readNumber(5);
                return number != NONE && write('0', number) != NONE;
            }
            if (!isLetter(sign)) {
                return text.refuse(MISPLACED, text.at);
            }
            text.at++;
            return write('a', sign) != NONE;
        }

        private static boolean isLetter(int sign) {
            return sign > 0 && "chsunmqatw".indexOf((char) sign) >= 0;
        }

        /** Each sign comes of a byte of its own, so the rows are as long as the longest text. */
        private int write(int sign, int value) {
            if (length >= LAW_BYTES) {
                return NONE;
            }
            signs[length] = sign;
            values[length] = value;
            length++;
            return length - 1;
        }

        /** Jumps that wait for one target hold each other's places; the target is the next sign. */
        private void land(int lastJump) {
            int jump = lastJump;
            for (int landed = 0; landed < LAW_BYTES && jump >= 0; landed++) {
                int before = values[jump];
                values[jump] = length;
                jump = before;
            }
        }
    }

    /** Minutes going by, and the law asked of one corner with one draw. */
    private static final class Tide {
        final Streets streets;
        final Law law;
        final int[] stack = new int[LAW_BYTES];
        State state;
        int corner;
        int draw;
        int reckoned;

        Tide(Streets streets, Law law, State state) {
            this.streets = streets;
            this.law = law;
            this.state = state;
        }

        /** How much comes out in n minutes, or in as many as can go by. */
        int pass(int n, State changed) {
            state = changed;
            int out = 0;
            for (int i = 0; i < n && state.minute < LAST_MINUTE; i++) {
                rise();
                level();
                out += weep();
                state.minute++;
            }
            return out;
        }

        private void rise() {
            for (int c = 0; c < CORNERS; c++) {
                if (!streets.isTold(c)) {
                    continue;
                }
                corner = c;
                draw = state.drawNumber();
                int room = Math.min(state.sea, MOST_SORROW - state.sorrow[c]);
                int risen = Math.min(amountOf('r'), room);
                state.sorrow[c] += risen;
                state.sea -= risen;
            }
        }

        private void level() {
            for (int p = 0; p < streets.pipes; p++) {
                if (!hasBit(state.open, p)) {
                    continue;
                }
                int a = streets.from[p];
                int b = streets.to[p];
                int more = streets.height[a] + state.sorrow[a] - streets.height[b] - state.sorrow[b];
                if (more >= 0) {
                    give(a, b, Math.min(streets.width[p], more / 2));
                } else {
                    give(b, a, Math.min(streets.width[p], -more / 2));
                }
            }
        }

        private void give(int high, int low, int much) {
            int room = Math.min(state.sorrow[high], MOST_SORROW - state.sorrow[low]);
            int given = Math.min(much, room);
            state.sorrow[high] -= given;
            state.sorrow[low] += given;
        }

        private int weep() {
            int all = 0;
            for (int c = 0; c < CORNERS; c++) {
                if (!streets.isTold(c) || state.turn[c] == 0) {
                    continue;
                }
                corner = c;
                draw = state.drawNumber();
                if (isFrozen()) {
                    continue;
                }
                int out = Math.min(state.turn[c] * amountOf('o'), state.sorrow[c]);
                state.sorrow[c] -= out;
                state.wept[c] = Math.min(MOST_WEPT, state.wept[c] + out);
                all += out;
            }
            return all;
        }

        private boolean isFrozen() {
            for (int rule = 0; rule < law.size; rule++) {
                boolean isAsked = law.kinds[rule] == 'x';
                if (isAsked && work(law.middles[rule], law.lasts[rule]) && reckoned != 0) {
                    return true;
                }
            }
            return false;
        }

        private int amountOf(int kind) {
            for (int rule = 0; rule < law.size; rule++) {
                boolean isAsked = law.kinds[rule] == kind;
                if (isAsked && work(law.middles[rule], law.lasts[rule]) && reckoned != 0) {
                    boolean isReckoned = work(law.firsts[rule], law.middles[rule]);
                    return isReckoned ? Math.max(0, Math.min(MOST_BY_LAW, reckoned)) : 0;
                }
            }
            return 1;
        }

        /** Works the law's signs; false: refused. Jumps go forward only, so no sign is met twice. */
        private boolean work(int first, int last) {
            int top = 0;
            int at = first;
            for (int worked = 0; worked < LAW_BYTES && at < last; worked++) {
                int sign = law.signs[at];
                int value = law.values[at];
                at++;
                if (top < neededBy(sign) || top >= stack.length) {
                    return false;
                }
                if (sign == '0' || sign == 'a') {
                    stack[top] = sign == '0' ? value : letter(value);
                    top++;
                } else if (sign == '!') {
                    stack[top - 1] = 1 - stack[top - 1];
                } else if (sign == '&' || sign == '|') {
                    boolean isSettled = stack[top - 1] == (sign == '&' ? 0 : 1);
                    at = isSettled ? value : at;
                    top = isSettled ? top : top - 1;
                } else {
                    top--;
                    int right = stack[top];
                    if (right == 0 && (sign == '/' || sign == '%')) {
                        return false;
                    }
                    stack[top - 1] = reckon(sign, stack[top - 1], right);
                }
            }
            reckoned = stack[0];
            return true;
        }

        private static int neededBy(int sign) {
            if (sign == '0' || sign == 'a') {
                return 0;
            }
            return sign == '!' || sign == '&' || sign == '|' ? 1 : 2;
        }

        private static int reckon(int sign, int left, int right) {
            switch (sign) {
                case '+': return left + right;
                case '-': return left - right;
                case '*': return left * right;
                case '/': return right == 0 ? 0 : left / right;
                case '%': return right == 0 ? 0 : left % right;
                case '<': return left < right ? 1 : 0;
                case '>': return left > right ? 1 : 0;
                default: return left == right ? 1 : 0;
            }
        }

        private int letter(int sign) {
            switch (sign) {
                case 'c': return corner;
                case 'h': return streets.height[corner];
                case 's': return state.sorrow[corner];
                case 'u': return state.turn[corner];
                case 'n': return streets.openPipesOf(corner, state.open);
                case 'm': return mostBeside();
                case 'q': return state.wept[corner] / 100;
                case 'a': return state.sea / 100;
                case 't': return state.minute % 100;
                default: return draw;
            }
        }

        private int mostBeside() {
            int found = 0;
            for (int p = 0; p < streets.pipes; p++) {
                int other = streets.across(p, corner);
                if (hasBit(state.open, p) && other != NONE) {
                    found = Math.max(found, state.sorrow[other]);
                }
            }
            return found;
        }
    }

    /** The open pipes, both ways, with corners as bits: how they hang together and how far apart they are. */
    private static final class Net {
        final Streets streets;
        final int[] near = new int[CORNERS];
        final int[] far = new int[CORNERS];
        final int[] marks = new int[CORNERS];
        int open;

        Net(Streets streets) {
            this.streets = streets;
        }

        void look(int openPipes) {
            open = openPipes;
            Arrays.fill(near, 0);
            for (int p = 0; p < streets.pipes; p++) {
                if (hasBit(open, p)) {
                    near[streets.from[p]] |= 1 << streets.to[p];
                    near[streets.to[p]] |= 1 << streets.from[p];
                }
            }
        }

        /** All corners beside one of those. */
        private int nearTo(int bits) {
            int found = 0;
            int rest = bits;
            for (int i = 0; i < CORNERS && rest != 0; i++) {
                found |= near[lowest(rest)];
                rest &= rest - 1;
            }
            return found;
        }

        /** Fills far with the steps from c to each corner (NOT_SO: no way) and answers those it comes to. */
        int measureFrom(int c) {
            Arrays.fill(far, NOT_SO);
            int seen = 1 << c;
            int edge = seen;
            for (int gone = 0; gone < CORNERS && edge != 0; gone++) {
                for (int d = 0; d < CORNERS; d++) {
                    if (hasBit(edge, d)) {
                        far[d] = gone;
                    }
                }
                edge = nearTo(edge) & ~seen;
                seen |= edge;
            }
            return seen;
        }

        int stepsBetween(int c, int d) {
            measureFrom(c);
            return far[d];
        }

        int widestWay(int c, int d) {
            Arrays.fill(marks, NOT_SO);
            marks[c] = WIDEST_PIPE;
            for (int round = 1; round < CORNERS; round++) {
                for (int p = 0; p < streets.pipes; p++) {
                    if (hasBit(open, p)) {
                        int a = streets.from[p];
                        int b = streets.to[p];
                        marks[b] = Math.max(marks[b], Math.min(marks[a], streets.width[p]));
                        marks[a] = Math.max(marks[a], Math.min(marks[b], streets.width[p]));
                    }
                }
            }
            return marks[d];
        }

        int groups(int openPipes) {
            look(openPipes);
            int found = 0;
            int rest = streets.told;
            for (int i = 0; i < CORNERS && rest != 0; i++) {
                rest &= ~measureFrom(lowest(rest));
                found++;
            }
            return found;
        }

        int bridgeBits(int openPipes) {
            int bits = 0;
            for (int p = 0; p < streets.pipes; p++) {
                if (hasBit(openPipes, p)) {
                    look(openPipes & ~(1 << p));
                    if (stepsBetween(streets.from[p], streets.to[p]) == NOT_SO) {
                        bits |= 1 << p;
                    }
                }
            }
            return bits;
        }

        /** The least ring by a pipe is that pipe and the shortest way back without it. */
        int leastRing(int c, int openPipes) {
            int least = NOT_SO;
            for (int p = 0; p < streets.pipes; p++) {
                int other = streets.across(p, c);
                if (!hasBit(openPipes, p) || other == NONE) {
                    continue;
                }
                look(openPipes & ~(1 << p));
                int back = stepsBetween(other, c);
                if (back != NOT_SO && (least == NOT_SO || back + 1 < least)) {
                    least = back + 1;
                }
            }
            return least;
        }

        /** Steps, the lower corner and the other one, in a byte's halves each. */
        int farthestPair() {
            int first = lowest(streets.told);
            int most = 0;
            int pair = first << 4 | first;
            for (int c = first; c < CORNERS; c++) {
                if (!streets.isTold(c)) {
                    continue;
                }
                measureFrom(c);
                for (int d = c + 1; d < CORNERS; d++) {
                    if (far[d] > most) {
                        most = far[d];
                        pair = most << 8 | c << 4 | d;
                    }
                }
            }
            return pair;
        }

        /** Always the widest pipe between two groups, until none is left, holds the most in all. */
        int widthToHold(int openPipes) {
            for (int c = 0; c < CORNERS; c++) {
                marks[c] = c;
            }
            int all = 0;
            for (int round = 1; round < CORNERS; round++) {
                int best = widestBetweenGroups(openPipes);
                if (best == NONE) {
                    return all;
                }
                all += streets.width[best];
                joinGroups(marks[streets.from[best]], marks[streets.to[best]]);
            }
            return all;
        }

        private int widestBetweenGroups(int openPipes) {
            int best = NONE;
            for (int p = 0; p < streets.pipes; p++) {
                boolean isBetween = marks[streets.from[p]] != marks[streets.to[p]];
                if (hasBit(openPipes, p) && isBetween
                        && (best == NONE || streets.width[p] > streets.width[best])) {
                    best = p;
                }
            }
            return best;
        }

        private void joinGroups(int stays, int goes) {
            for (int c = 0; c < CORNERS; c++) {
                if (marks[c] == goes) {
                    marks[c] = stays;
                }
            }
        }

        /** Steps above the bits of the k corners; NOT_SO if k corners do not do. */
        int bestStand(int k) {
            if (Integer.bitCount(streets.told) < k || groups(open) > k) {
                return NOT_SO;
            }
            for (int c = 0; c < CORNERS; c++) {
                marks[c] = 1 << c;
            }
            for (int gone = 0; gone < CORNERS; gone++) {
                int bits = leastCover(k);
                if (bits != 0) {
                    return gone << CORNERS | bits;
                }
                for (int c = 0; c < CORNERS; c++) {
                    marks[c] |= nearTo(marks[c]);
                }
            }
            return NOT_SO;
        }

        /** The least k bits whose marks together hold all told corners; 0: none. */
        private int leastCover(int k) {
            int bits = (1 << k) - 1;
            for (int tries = 0; tries < 1 << CORNERS && bits < 1 << CORNERS; tries++) {
                if ((bits & ~streets.told) == 0 && doesCover(bits)) {
                    return bits;
                }
                bits = nextOfAsMany(bits);
            }
            return 0;
        }

        private boolean doesCover(int bits) {
            int covered = 0;
            int rest = bits;
            for (int i = 0; i < MOST_BRIGADES && rest != 0; i++) {
                covered |= marks[lowest(rest)];
                rest &= rest - 1;
            }
            return covered == streets.told;
        }

        /** The next greater number of as many bits: ascending, so the first that covers is the least. */
        private static int nextOfAsMany(int bits) {
            int low = bits & -bits;
            int carried = bits + low;
            return low == 0 ? 1 << CORNERS : carried | (bits ^ carried) / low >> 2;
        }
    }

    /** How much can go from one corner to another one, pushed by shortest ways until none is left. */
    private static final class Flow {
        final Streets streets;
        final int[] left = new int[CORNERS * CORNERS];
        final int[] cameFrom = new int[CORNERS];
        int side;

        Flow(Streets streets) {
            this.streets = streets;
        }

        int push(int c, int d, int open, boolean isEachOne) {
            Arrays.fill(left, 0);
            for (int p = 0; p < streets.pipes; p++) {
                if (hasBit(open, p)) {
                    int wide = isEachOne ? 1 : streets.width[p];
                    left[streets.from[p] * CORNERS + streets.to[p]] += wide;
                    left[streets.to[p] * CORNERS + streets.from[p]] += wide;
                }
            }
            int all = 0;
            for (int round = 0; round <= PIPES * WIDEST_PIPE; round++) {
                seek(c);
                if (!hasBit(side, d)) {
                    return all;
                }
                all += pushBy(c, d);
            }
            return all;
        }

        /** Sets side to all corners that c can still come to. */
        private void seek(int c) {
            side = 1 << c;
            int edge = side;
            for (int gone = 0; gone < CORNERS && edge != 0; gone++) {
                int next = 0;
                for (int at = 0; at < CORNERS; at++) {
                    if (hasBit(edge, at)) {
                        next |= spreadFrom(at);
                    }
                }
                edge = next;
            }
        }

        private int spreadFrom(int at) {
            int found = 0;
            for (int next = 0; next < CORNERS; next++) {
                if (!hasBit(side, next) && left[at * CORNERS + next] > 0) {
                    side |= 1 << next;
                    found |= 1 << next;
                    cameFrom[next] = at;
                }
            }
            return found;
        }

        private int pushBy(int c, int d) {
            int least = WIDEST_PIPE * PIPES;
            int at = d;
            for (int i = 0; i < CORNERS && at != c; i++) {
                least = Math.min(least, left[cameFrom[at] * CORNERS + at]);
                at = cameFrom[at];
            }
            at = d;
            for (int i = 0; i < CORNERS && at != c; i++) {
                left[cameFrom[at] * CORNERS + at] -= least;
                left[at * CORNERS + cameFrom[at]] += least;
                at = cameFrom[at];
            }
            return least;
        }
    }

    /** The walk that paints all pipes, and the longest one. */
    private static final class Walks {
        final Streets streets;
        final Net net;
        final int[] odds = new int[CORNERS];
        final int[] apart = new int[CORNERS * CORNERS];
        final long[] costs = new long[1 << CORNERS - 5];
        int size;
        int gone;
        int end;

        Walks(Streets streets, Net net) {
            this.streets = streets;
            this.net = net;
        }

        /** Corners with an odd number of pipes are joined in pairs by ways that are gone once more. */
        int paintAll(int c, int open) {
            int group = net.measureFrom(c);
            int ends = 0;
            size = 0;
            for (int d = 0; d < CORNERS; d++) {
                if (hasBit(group, d)) {
                    int pipes = streets.openPipesOf(d, open);
                    ends += pipes;
                    if (pipes % 2 == 1) {
                        odds[size] = d;
                        size++;
                    }
                }
            }
            return ends / 2 + (size == 0 ? 0 : pairUp());
        }

        /** Only sets of an even number are asked, so the lowest bit of a set is known from the others. */
        private int pairUp() {
            measureOdds();
            int sets = 1 << size - 1;
            for (int half = 0; half < sets; half++) {
                int set = half << 1 | Integer.bitCount(half) & 1;
                int paired = size - Integer.bitCount(set);
                // The lowest is always paired first: sets whose lowest is lower still never come up.
                boolean isMet = set == 0 || (set & -set) >= 1 << paired / 2;
                if (isMet) {
                    setCost(half, leastFor(set));
                }
            }
            return costOf(sets - 1);
        }

        private void measureOdds() {
            for (int i = 0; i < size; i++) {
                net.measureFrom(odds[i]);
                for (int j = 0; j < size; j++) {
                    apart[i * CORNERS + j] = net.far[odds[j]];
                }
            }
        }

        private int leastFor(int set) {
            if (set == 0) {
                return 0;
            }
            int low = lowest(set);
            int rest = set & set - 1;
            int least = CORNERS - 1;
            for (int j = low + 1; j < size; j++) {
                if (hasBit(rest, j)) {
                    int without = rest & ~(1 << j);
                    least = Math.min(least, apart[low * CORNERS + j] + costOf(without >> 1));
                }
            }
            return least;
        }

        /** A tree over a group has at most 15 pipes, so no cost is more, and four bits hold it. */
        private int costOf(int half) {
            return (int) (costs[half >> 4] >>> ((half & 15) << 2) & 15);
        }

        private void setCost(int half, int cost) {
            int shift = (half & 15) << 2;
            costs[half >> 4] = costs[half >> 4] & ~(15L << shift) | (long) cost << shift;
        }

        void goFar(int c) {
            gone = 0;
            end = c;
            goOn(this, c, net.measureFrom(c) & ~(1 << c), 0);
        }

        private static void goOn(Walks found, int c, int unseen, int depth) {
            if (depth > found.gone || depth == found.gone && c < found.end) {
                found.gone = depth;
                found.end = c;
            }
            if (depth >= CORNERS || depth + Integer.bitCount(unseen) < found.gone) {
                return;
            }
            int rest = found.net.near[c] & unseen;
            for (int i = 0; i < CORNERS && rest != 0; i++) {
                int next = lowest(rest);
                rest &= rest - 1;
                goOn(found, next, unseen & ~(1 << next), depth + 1);
            }
        }
    }

    /** Ways to a sum, met in the middle: what the first four hydrants can give is laid out by sums. */
    private static final class Eighths {
        final int[] laid = new int[MOST_FROM_HYDRANTS / 2 + 1];
        int given;
        int turned;
        int ways;
        int fewest;

        void reckon(Tape tape, int n, int sum) {
            int middle = n / 2;
            layOut(tape, middle);
            ways = 0;
            fewest = MOST_HYDRANTS * MOST_TURN;
            int choices = choicesOf(n - middle);
            for (int choice = 0; choice < choices; choice++) {
                turnKeys(tape, middle, n, choice);
                int rest = sum - given;
                if (rest >= 0 && rest < laid.length && laid[rest] != 0) {
                    ways += laid[rest] >> 6;
                    fewest = Math.min(fewest, turned + (laid[rest] & 63));
                }
            }
        }

        /** By each sum: how many ways, above six bits for the fewest eighths. */
        private void layOut(Tape tape, int middle) {
            Arrays.fill(laid, 0);
            int choices = choicesOf(middle);
            for (int choice = 0; choice < choices; choice++) {
                turnKeys(tape, 0, middle, choice);
                int before = laid[given];
                int few = before == 0 ? turned : Math.min(turned, before & 63);
                laid[given] = (before >> 6) + 1 << 6 | few;
            }
        }

        private static int choicesOf(int hydrants) {
            int choices = 1;
            for (int i = 0; i < hydrants; i++) {
                choices *= MOST_TURN + 1;
            }
            return choices;
        }

        /** A choice is a number to the base of nine, a digit for each hydrant. */
        private void turnKeys(Tape tape, int first, int last, int choice) {
            given = 0;
            turned = 0;
            int rest = choice;
            for (int i = first; i < last; i++) {
                int turn = rest % (MOST_TURN + 1);
                rest /= MOST_TURN + 1;
                given += turn * tape.byteAt(i);
                turned += turn;
            }
        }
    }
}
