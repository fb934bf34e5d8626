import java.io.IOException;

/** The edges of the tape and of the texts on it (promises 2 to 5), each by the document's own words. */
public final class SorrowPipesTextEdges extends Dues {
    private static final String DIGITS = "0123456789";
    private static final String CORNERS = "abcdefghijklmnop";
    private static final String LETTERS = "chsunmqatw";
    private static final String SIGNS = "+-*/%";

    public static void main(String[] args) throws IOException {
        tapeFull();
        tapeOrder();
        lawLengths();
        lawBytes();
        lawEnds();
        lawBlanks();
        lawDigits();
        lawRules();
        lawOpened();
        lawFirstFault();
        lawInPlace();
        lawFaultStays();
        townLengths();
        townBytes();
        townEnds();
        townBlanks();
        townCorners();
        townDigits();
        townWidths();
        townLines();
        townPipes();
        townItself();
        townFirstFault();
        townInPlace();
        townFaultStays();
        ordersLengths();
        ordersBytes();
        ordersEnds();
        ordersBlanks();
        ordersDigits();
        ordersLines();
        ordersNotThere();
        ordersFirstFault();
        ordersBounds();
        ordersChangeNothingElse();
        ordersFaultDoesNothing();
        areInDocument(args);
        end("the edges of texts hold");
    }

    private static SorrowPipes rich() {
        SorrowPipes x = of("a=9;b-c7-a3", "a+50;b+5;b@3;#1!;~1234", "r2(c=0);o5(1=1);x(t=9)");
        x.seed(77);
        x.minutes(2);
        return x;
    }

    // ---- promise 2

    private static void tapeFull() {
        says(2, "how many it has; NONE if that would be more than 260.");
        SorrowPipes x = rich();
        String before = seen(x);
        feedText(x, "p=42;o=41;n-m40");
        for (int i = 2; i <= 13; i++) {
            due("feed " + i, x.feed(0, 0, 0, 0, 0), 20 * i);
        }
        stays("13 feeds", x, before, 260);
        due("feed 14", x.feed(-1, -1, -1, -1, -1), NONE);
        due("feed 15", x.feed(0, 0, 0, 0, 0), NONE);
        stays("a refused feed", x, before, 260);
        due("what was fed ahead stays", x.town(15), 1);
        due("what was fed ahead stays: p", x.cornerIs(15, 0), 42);
        due("behind a reading it is empty", x.feed(1, 2, 3, 4, 5), 20);
    }

    private static void tapeOrder() {
        says(2, "Twenty bytes come behind the tape, the highest of each int first");
        SorrowPipes x = of("a;b;c;d;e;f;g;h", "b@1;c@2;d@3;e@4;f@5;g@6;h@7");
        due("the first feed", x.feed(0x00010203, 0x04050607, 0xFFFFFFFF, 0xFFFFFFFF, 0xFFFFFFFF), 20);
        due("bytes of 255 and the order", x.check(16), NONE);
        feedText(x, "a;b;c;d;e;f;g;h;i;j;");
        feedText(x, "k;l;m;n;o;p");
        due("bytes 20 on stand behind those ahead", x.town(31), 0);
        due("bytes 20 on stand behind those ahead: told", x.count(1), 65535);
        due("behind a reading the next feed is the first again", town(x, "c"), 0);
        due("told", x.count(1), 4);
    }

    // ---- promise 3

    private static void lawLengths() {
        says(3, "THE LAW by the first n bytes of the tape (1 to 240; empty then)");
        String most = "x(1=1" + "+1".repeat(117) + ")";
        SorrowPipes x = rich();
        feedText(x, most);
        fillTape(x);
        due("law(240) of 260 bytes", x.law(240), 1);
        due("the tape", x.count(6), 0);
        feedText(x, "r");
        due("law(1)", x.law(1), -1001);
        due("the tape", x.count(6), 0);
        feedText(x, "r5(1=1);o6(1=1)");
        due("the first bytes alone", x.law(7), 1);
        due("the rest is gone, too", x.count(6), 0);

        says(3, "NONE: no such n, it has not so many (the tape stays).");
        feedText(x, most);
        fillTape(x);
        String before = seen(x);
        for (int n : new int[] {0, -1, 241, 260, 261, Integer.MAX_VALUE, Integer.MIN_VALUE}) {
            due("law(" + n + ")", x.law(n), NONE);
        }
        stays("law of no such n", x, before, 260);
        due("the bytes stay", x.law(240), 1);
        due("law(1) of an empty tape", x.law(1), NONE);
        feedText(x, "x(1=1);x(1=2);x(1=3)");
        due("law(21) of 20 bytes", x.law(21), NONE);
        due("the tape", x.count(6), 20);
        due("law(20) of 20 bytes", x.law(20), 3);
    }

    /** The answer beside the bytes that hold b: pairs of bytes and an answer; the rest for all others. */
    private static int answerFor(int b, int rest, Object... pairs) {
        for (int i = 0; i < pairs.length; i += 2) {
            if (((String) pairs[i]).indexOf((char) b) >= 0) {
                return (Integer) pairs[i + 1];
            }
        }
        return rest;
    }

    /** Each byte behind a text that is fine so far: what is in no pair can't stand there. */
    private static void lawAt(String ahead, Object... pairs) {
        for (int b = 0; b < 256; b++) {
            due("law " + ahead + " and byte " + b, law(new SorrowPipes(), ahead + (char) b),
                    answerFor(b, -1000 - ahead.length(), pairs));
        }
    }

    private static void lawBytes() {
        says(3, "1 what can't stand there (the end, too); 2 a sixth digit, at it");
        lawAt("", "rox", -1001);
        lawAt("r", LETTERS + DIGITS + "[", -1002);
        lawAt("o[", LETTERS + DIGITS + "[", -1003);
        lawAt("rs", SIGNS + "(", -1003);
        lawAt("r1", DIGITS + SIGNS + "(", -1003);
        lawAt("r1+", LETTERS + DIGITS + "[", -1004);
        lawAt("r[1", DIGITS + SIGNS + "]", -1004);
        lawAt("r[s]", SIGNS + "(", -1005);
        lawAt("x", "(", -1002);
        lawAt("r1(", LETTERS + DIGITS + "[!(", -1004);
        lawAt("x(!", LETTERS + DIGITS + "[!(", -1004);
        lawAt("x(1", DIGITS + SIGNS + "<>=", -1004);
        lawAt("x(s", SIGNS + "<>=", -1004);
        lawAt("x([s]", SIGNS + "<>=", -1006);
        lawAt("x(1<", LETTERS + DIGITS + "[", -1005);
        lawAt("x((1=s", SIGNS + "&|)", -1007);
        lawAt("x((1=1)", "&|", -1008, ")", 1);
        lawAt("x(((1=1)", "&|)", -1009);
        lawAt("x(1=1&", LETTERS + DIGITS + "[!(", -1007);
        lawAt("x(1=1|", LETTERS + DIGITS + "[!(", -1007);
        lawAt("x(1=1)", ";", -1007);
        lawAt("x(1=1);", "rox", -1008);
        lawAt("x(1=s", SIGNS + "&|", -1006, ")", 1);
    }

    /** Each beginning of a text that is not whole by itself has its fault at its end, whatever the tape has behind it. */
    private static void lawEnds() {
        says(3, "FAULTS, the first from the left: 1 what can't stand there (the end, too); 2 a sixth digit, at it");
        String text = "r[s+12]*3(!(c=1)|s<5&m>2);x(1=1);o5%u(1=1)";
        for (int n = 1; n <= text.length(); n++) {
            int rules = n == 25 ? 1 : n == 32 ? 2 : n == text.length() ? 3 : -1000 - n;
            SorrowPipes x = new SorrowPipes();
            feedText(x, text);
            due("law " + text.substring(0, n), x.law(n), rules);
        }
    }

    private static void lawBlanks() {
        says(3, "THE LAW: a TEXT of at most 240 bytes, no blanks (none at first)");
        String text = "r[s+12]*3(!(c=1)|s<5&m>2);x(1=1)";
        for (int i = 0; i <= text.length(); i++) {
            String blank = text.substring(0, i) + " " + text.substring(i);
            due("law " + blank, law(new SorrowPipes(), blank), -1000 - i);
        }
        due("none at first", new SorrowPipes().count(5), 0);
    }

    private static void lawDigits() {
        says(3, "a number of one to five digits");
        due("1 digit", law(new SorrowPipes(), "r7(1=1)"), 1);
        due("5 digits", law(new SorrowPipes(), "r99999(1=1)"), 1);
        due("5 digits of 0", law(new SorrowPipes(), "r00000(1=1)"), 1);
        SorrowPipes x = of("a");
        law(x, "r00012(10000=10000&99999>99998)");
        due("0 ahead counts for nothing", x.tried(1, 10), 12);

        says(3, "2 a sixth digit, at it");
        due("in E", law(new SorrowPipes(), "r123456(1=1)"), -2006);
        due("0 ahead counts as a digit", law(new SorrowPipes(), "r000001(1=1)"), -2006);
        due("at the end", law(new SorrowPipes(), "r123456"), -2006);
        due("a seventh behind it", law(new SorrowPipes(), "r1234567"), -2006);
        due("in the left E of a test", law(new SorrowPipes(), "x(123456=1)"), -2007);
        due("in the right E of a test", law(new SorrowPipes(), "x(1=123456)"), -2009);
        due("in [ ]", law(new SorrowPipes(), "r[123456](1=1)"), -2007);
        due("behind a sign", law(new SorrowPipes(), "r12345*123456(1=1)"), -2012);
    }

    private static void lawRules() {
        says(3, "4 a 17th RULE, at its letter (if that can stand there)");
        String sixteen = "x(1=1);".repeat(14) + "r1(1=1);o1(1=1)";
        due("16 rules", law(new SorrowPipes(), sixteen), 16);
        due("the 16th counts", of("a", "a@1", "r2(1=2);".repeat(15) + "r9(1=1)").tried(1, 1), 9990);
        int place = sixteen.length() + 1;
        for (int b = 0; b < 256; b++) {
            int want = b == 'r' || b == 'o' || b == 'x' ? -4000 - place : -1000 - place;
            due("a 17th of byte " + b, law(new SorrowPipes(), sixteen + ";" + (char) b), want);
        }
        due("a 17th that is whole", law(new SorrowPipes(), sixteen + ";x(1=1)"), -4000 - place);
        due("a 17th with a fault of its own", law(new SorrowPipes(), sixteen + ";x)"), -4000 - place);
        due("the end in its place", law(new SorrowPipes(), sixteen + ";"), -1000 - place);
        due("a fault of the 16th", law(new SorrowPipes(), sixteen.replace("o1(", "o1)") + ";x(1=1)"), -1108);
    }

    private static void lawOpened() {
        says(3, "5 a seventh of ( [ ! that are open in one another, at it");
        Object[][] texts = {
            {"x((((((1=1))))))", 1}, {"x(((((((1=1)))))))", -5007}, {"x(([[[[1]]]]=1))", 1},
            {"x(([[[[[1]]]]]=1))", -5007}, {"x((!(!([1]=1))))", -5007}, {"x((!(!(1=1))))", 1}, {"x(((((((", -5007},
            {"x(!!!!!!", -5007}, {"r[[[[[[[", -5007}, {"x((((((1=1)))))|(((((1=1))))))", 1},
            {"x((((((1=1)))))|((((((1=1)))))))", -5021}, {"x([[[[[1]]]]]+[[[[[1]]]]]=[[[[[1]]]]])", 1},
        };
        lawsAre(texts);

        says(3, "the ( of the RULE counts; a ! is open till its TEST ends; the E of a RULE stands ahead of it");
        Object[][] more = {
            {"r[[[[[[1]]]]]](1=1)", 1}, {"r[[[[[[[1]]]]]]](1=1)", -5007}, {"r1+[[[[[[1]]]]]]*[[[[[[2]]]]]](1=1)", 1},
            {"r[[[[[[1]]]]]](((((([1]=1))))))", -5020}, {"r[[[[[[1]]]]]](([[[[1]]]]=1))", 1},
            {"x(!!!!!1=1)", 1}, {"x(!!!!!!1=1)", -5007}, {"x(!!!!![1]=1)", -5007}, {"x(!!!!!1=[1])", -5009},
            {"x(!!!!!(1=1))", -5007}, {"x(!!!!1=[1])", 1}, {"x(!!!!([1]=1))", -5007}, {"x(!!!!(1=1))", 1},
            {"x(!!!!!1=1&!!!!!1=1|!!!!!1=1)", 1}, {"x(!!!!!1=1&[[[[[1]]]]]=1)", 1}, {"x(!!!!!1=1&[[[[[[1]]]]]]=1)", -5016},
            {"x(!(1=1&!!!!1=1))", -5011}, {"x(!(1=1&!!!1=1))", 1}, {"x(!(1=1)&((((1=1)))))", 1},
        };
        lawsAre(more);

        says(3, "1 what can't stand there (the end, too); 2 a sixth digit, at it; 4 a 17th RULE");
        Object[][] misplaced = {
            {"r[[[[[[(", -1007}, {"r[[[[[[!", -1007}, {"x((((((1=(", -1009}, {"x((((((1(", -1008}, {"x((((((1=1(", -1010},
            {"x((((((s[", -1008}, {"x((((((1=!", -1009}, {"x((((((1=1)(", -1011}, {"x((((((", -1007}, {"x((((((]", -1007},
        };
        lawsAre(misplaced);
    }

    private static void lawsAre(Object[][] texts) {
        for (Object[] each : texts) {
            due("law " + each[0], law(new SorrowPipes(), (String) each[0]), (Integer) each[1]);
        }
    }

    private static void lawFirstFault() {
        says(3, "FAULTS, the first from the left: 1 what can't stand there (the end, too); 2 a sixth digit, at it");
        Object[][] texts = {
            {"r123456(((((((1=1", -2006}, {"x(((((((123456=1", -5007}, {"r?123456", -1001}, {"x(1=1);?;r123456", -1007},
            {"x(1=123456);?", -2009}, {"r[[[[[[[123456", -5007}, {"r[[[[[[123456", -2012},
        };
        lawsAre(texts);
    }

    private static void lawInPlace() {
        says(3, "in place of the one before: how many RULES");
        SorrowPipes x = of("a", "a@1");
        due("three", law(x, "r7(1=1);x(1=1);o9(1=1)"), 3);
        due("three: the rise", x.tried(1, 10), 7);
        due("one", law(x, "o2(1=1)"), 1);
        due("count(5)", x.count(5), 1);
        due("no rule of r is left", x.tried(1, 1), 9998);
        due("no rule of x is left", x.tried(1, 0), 1);
        due("nothing else is changed", x.cornerIs(0, 2), 1);
    }

    private static void lawFaultStays() {
        says(3, "a FAULT: -1000 times its number, less its place (the one before stays)");
        SorrowPipes x = rich();
        String before = seen(x);
        String[] texts = {"q", "r7(1=1);r8", "r7(1=1);x(1=123456)", "r7(1=1);x(((((((", "r7(1=1);".repeat(16) + "x"};
        int[] faults = {-1000, -1010, -2017, -5015, -4128};
        for (int i = 0; i < texts.length; i++) {
            due("law " + texts[i], law(x, texts[i]), faults[i]);
            stays("a fault", x, before, 0);
        }
    }

    // ---- promise 4

    private static void townLengths() {
        says(4, "A TOWN by the first n bytes of the tape (1 to 160; empty then): how many PIPES");
        String most = "a-b99;" + "a=11;".repeat(22) + "a" + "-b11-a11".repeat(5) + "-b9";
        SorrowPipes x = new SorrowPipes();
        feedText(x, most);
        fillTape(x);
        due("town(160) of 260 bytes", x.town(160), 12);
        due("the tape", x.count(6), 0);
        feedText(x, "p");
        due("town(1)", x.town(1), 0);
        feedText(x, "a-b1;b-c2");
        due("the first bytes alone", x.town(4), 1);
        due("the rest is gone, too", x.count(6), 0);

        says(4, "a FAULT (all stays); NONE: as above.");
        SorrowPipes y = rich();
        feedText(y, most);
        fillTape(y);
        String before = seen(y);
        for (int n : new int[] {0, -1, 161, 260, 261, Integer.MAX_VALUE, Integer.MIN_VALUE}) {
            due("town(" + n + ")", y.town(n), NONE);
        }
        stays("town of no such n", y, before, 260);
        due("the bytes stay", y.town(160), 12);
        due("town(1) of an empty tape", y.town(1), NONE);
        feedText(y, "a;b;c;d;e;f;g;h;i=10");
        due("town(21) of 20 bytes", y.town(21), NONE);
        due("the tape", y.count(6), 20);
        due("town(20) of 20 bytes", y.town(20), 0);
    }

    private static void townAt(String ahead, Object... pairs) {
        for (int b = 0; b < 256; b++) {
            due("town " + ahead + " and byte " + b, town(new SorrowPipes(), ahead + (char) b),
                    answerFor(b, -1000 - ahead.length(), pairs));
        }
    }

    private static void townBytes() {
        says(4, "FAULTS, the first from the left: 1 what can't stand there (the end, too); 2 a third digit, at it");
        townAt("", CORNERS, 0);
        townAt("a", "=-;", -1002);
        townAt("a=", DIGITS, 0);
        townAt("a=1", DIGITS, 0, ";", -1004);
        townAt("a=12", ";", -1005, DIGITS, -2004);
        townAt("a-", "bcdefghijklmnop", -1003, "a", -6002);
        townAt("a-b", "123456789", 1, "0", -3003);
        townAt("a-b1", DIGITS, 1, "-;", -1005);
        townAt("a-b12", "-;", -1006, DIGITS, -2005);
        townAt("a;", CORNERS, 0);
        townAt("a-b1;", CORNERS, 1);
        townAt("a-b1-", "acdefghijklmnop", -1006, "b", -6005);
    }

    private static void townEnds() {
        says(4, "1 what can't stand there (the end, too); 2 a third digit, at it");
        String text = "a=12;b-c12-d3;e";
        int[] wants = {0, -1002, 0, 0, -1005, 0, -1007, -1008, 1, 1, -1011, -1012, 2, -1014, 2};
        for (int n = 1; n <= text.length(); n++) {
            SorrowPipes x = new SorrowPipes();
            feedText(x, text);
            due("town " + text.substring(0, n), x.town(n), wants[n - 1]);
        }
    }

    private static void townBlanks() {
        says(4, "A TOWN: a TEXT of at most 160 bytes, no blanks (none at first)");
        String text = "a=12;b-c12-d3;e";
        for (int i = 0; i <= text.length(); i++) {
            String blank = text.substring(0, i) + " " + text.substring(i);
            due("town " + blank, town(new SorrowPipes(), blank), -1000 - i);
        }
        due("none at first", new SorrowPipes().count(1), 0);
    }

    private static void townCorners() {
        says(4, "CORNERS a to p (0 to 15)");
        SorrowPipes x = of("a=1;p=2");
        due("told", x.count(1), 1 | 1 << 15);
        due("a is 0", x.cornerIs(0, 0), 1);
        due("p is 15", x.cornerIs(15, 0), 2);
        due("behind p", town(x, "q"), -1000);
        due("ahead of a", town(x, "`"), -1000);
        due("A", town(x, "A"), -1000);
        due("a road to behind p", town(x, "a-q1"), -1002);

        says(4, "- (45), a letter (told by it, too), a number (WIDTH): a PIPE from the one ahead to this one");
        SorrowPipes y = of("p-a1-o2");
        due("told", y.count(1), 1 | 3 << 14);
        due("from", y.pipeIs(1, 0), 0);
        due("to", y.pipeIs(1, 1), 14);
        due("a road told in a line with =", town(y, "a=3-b1"), -1003);
        due("a = told behind a road", town(y, "a-b1=3"), -1004);
    }

    private static void townDigits() {
        says(4, "numbers of one or two digits");
        SorrowPipes x = of("a=0;b=9;c=99;d=07;e-f9-g99-h08");
        int[] heights = {0, 9, 99, 7};
        for (int c = 0; c < 4; c++) {
            due("height of " + c, x.cornerIs(c, 0), heights[c]);
        }
        int[] widths = {9, 99, 8};
        for (int p = 0; p < 3; p++) {
            due("width of " + p, x.pipeIs(p, 2), widths[p]);
        }

        says(4, "2 a third digit, at it");
        due("of a height", town(new SorrowPipes(), "a=100"), -2004);
        due("of a height, 0 ahead", town(new SorrowPipes(), "a=000"), -2004);
        due("of a width", town(new SorrowPipes(), "a-b100"), -2005);
        due("a fourth behind it", town(new SorrowPipes(), "a-b1000"), -2005);
    }

    private static void townWidths() {
        says(4, "3 a WIDTH of 0, at its first digit (asked when it ends)");
        Object[][] texts = {
            {"a-b0", -3003}, {"a-b00", -3003}, {"a-b000", -2005}, {"a-b0-c1", -3003}, {"a-b0;c", -3003}, {"a-b0?", -3003},
            {"a-b00?", -3003}, {"a-b0-a", -3003}, {"a-b1-c0", -3006}, {"a-b1-c00;?", -3006}, {"a-b01", 1}, {"a-b10", 1},
            {"a=0", 0}, {"a=00", 0},
        };
        townsAre(texts);
        for (int b = 0; b < 256; b++) {
            boolean isDigit = b >= '0' && b <= '9';
            due("a-b0 and byte " + b, town(new SorrowPipes(), "a-b0" + (char) b), isDigit && b != '0' ? 1 : -3003);
            due("a-b00 and byte " + b, town(new SorrowPipes(), "a-b00" + (char) b), isDigit ? -2005 : -3003);
        }
    }

    private static void townsAre(Object[][] texts) {
        for (Object[] each : texts) {
            due("town " + each[0], town(new SorrowPipes(), (String) each[0]), (Integer) each[1]);
        }
    }

    private static void townLines() {
        says(4, "LINES with a ; (59) between two (24 at most)");
        String lines = "a;".repeat(23) + "p=9";
        SorrowPipes x = new SorrowPipes();
        due("24 lines", town(x, lines), 0);
        due("24 lines: the last", x.cornerIs(15, 0), 9);

        says(4, "4 a 25th LINE, at its letter (if that can stand there)");
        for (int b = 0; b < 256; b++) {
            int want = b >= 'a' && b <= 'p' ? -4050 : -1050;
            due("a 25th of byte " + b, town(new SorrowPipes(), lines + ";" + (char) b), want);
        }
        due("the end in its place", town(new SorrowPipes(), lines + ";"), -1050);
        due("a 25th with a fault of its own", town(new SorrowPipes(), lines + ";a-a"), -4050);
        due("a fault of the 24th", town(new SorrowPipes(), lines + "99;a"), -2050);
    }

    private static void townPipes() {
        says(4, "PIPES (24 at most): between two unlike told CORNERS, of a WIDTH (1 to 99), OPEN or CLOSED.");
        String pipes = "a" + "-b1-a99".repeat(12);
        SorrowPipes x = new SorrowPipes();
        due("24 pipes", town(x, pipes), 24);
        due("the last one's width", x.pipeIs(23, 2), 99);
        due("pipe 24", x.pipeIs(24, 2), NONE);
        due("count(3)", x.count(3), 24);

        says(4, "5 a 25th PIPE, at its -");
        Object[][] texts = {
            {pipes + "-b1", -5085}, {pipes + "-", -5085}, {pipes + "-a1", -5085}, {pipes + "-b0", -5085},
            {pipes + "-?", -5085}, {pipes + ";a-b1", -5087}, {pipes + ";a;b-", -5089}, {pipes + ";a=5", 24},
            {pipes + ";a", 24}, {pipes + "9-b1", -2085}, {pipes + "=", -1085},
        };
        townsAre(texts);
    }

    private static void townItself() {
        says(4, "6 a CORNER and itself, at the second letter");
        Object[][] texts = {
            {"a-a1", -6002}, {"a-a", -6002}, {"a-a0", -6002}, {"p-p99", -6002}, {"a-b1-b1", -6005}, {"a-b1-a1", 2},
            {"a;b-b1", -6004}, {"a-b1;a-a1", -6007},
        };
        townsAre(texts);
    }

    private static void townFirstFault() {
        says(4, "FAULTS, the first from the left: 1 what can't stand there (the end, too); 2 a third digit, at it");
        Object[][] texts = {
            {"a-b0;a-a1", -3003}, {"a-a1;a-b0", -6002}, {"a=123;?", -2004}, {"a?=123", -1001}, {"a-b123;a-a1", -2005},
            {"a;".repeat(24) + "a-a1", -4048}, {"a-b0;" + "a;".repeat(24) + "a", -3003},
        };
        townsAre(texts);
    }

    private static void townInPlace() {
        says(4, "In place of all ahead: SORROW, TURN, WEPT, HEIGHT (if not told; told twice the last counts) 0, "
                + "all PIPES OPEN; THE SEA, THE MINUTE stay.");
        SorrowPipes x = rich();
        int sea = x.count(4);
        int minute = x.count(0);
        int drawn = x.count(7);
        due("town", town(x, "b=5;a-b7-d2;b=0;d=4;d=6;d"), 2);
        due("told", x.count(1), 11);
        int[][] corners = {{0, 0, 0, 0, 1, 2}, {0, 0, 0, 0, 2, 9}, {}, {6, 0, 0, 0, 1, 2}};
        for (int c = 0; c < 4; c++) {
            for (int what = 0; what < corners[c].length; what++) {
                due("cornerIs(" + c + ", " + what + ")", x.cornerIs(c, what), corners[c][what]);
            }
        }
        due("c is told no more", x.cornerIs(2, 0), NONE);
        due("pipe 0", x.pipeIs(0, 3), 1);
        due("pipe 1 was closed", x.pipeIs(1, 3), 1);
        due("THE SEA", x.count(4), sea);
        due("THE MINUTE", x.count(0), minute);
        due("X", x.count(7), drawn);
        due("THE LAW", x.count(5), 3);
        due("the same town again", town(x, "a"), 0);
        due("a height not told", x.cornerIs(0, 0), 0);
        due("pipes of before", x.pipeIs(0, 0), NONE);
    }

    private static void townFaultStays() {
        says(4, "a FAULT (all stays)");
        SorrowPipes x = rich();
        String before = seen(x);
        String[] texts = {"q", "d=5;a=77?", "d=5;a=777", "d-a5;e-d0", "d;".repeat(24) + "e", "d-a5-d",
            "a" + "-b1-a1".repeat(12) + "-", "d=9;a-a", "a=5;"};
        int[] faults = {-1000, -1008, -2008, -3008, -4048, -1006, -5073, -6006, -1004};
        for (int i = 0; i < texts.length; i++) {
            due("town " + texts[i], town(x, texts[i]), faults[i]);
            stays("a fault", x, before, 0);
        }
    }

    // ---- promise 5

    private static void ordersLengths() {
        says(5, "ORDERS by the first n bytes of the tape (1 to 120; empty then): how many LINES");
        String most = "a+1234;" + "~123456;".repeat(13) + "a-1;c@8;a";
        String fits = most.substring(0, 111) + "a-12;b@8;";
        due("120 bytes", fits.length(), 120);
        SorrowPipes x = rich();
        feedText(x, fits.substring(0, 119) + "?");
        fillTape(x);
        due("orders(119) of 260 bytes", x.orders(119), 16);
        due("the tape", x.count(6), 0);
        feedText(x, fits);
        due("orders(120) with an end behind ;", x.orders(120), -1120);
        feedText(x, fits.substring(0, 111) + "a-123;b@8");
        due("orders(120)", x.orders(120), 16);
        feedText(x, "a");
        due("orders(1)", x.orders(1), -1001);
        feedText(x, "~5;~6");
        due("the first bytes alone", x.orders(2), 1);
        due("the first bytes alone: the sea", x.count(4), 5);
        due("the rest is gone, too", x.count(6), 0);

        says(5, "a FAULT; NONE: as above.");
        SorrowPipes y = rich();
        feedText(y, fits.substring(0, 111) + "a-123;b@8");
        fillTape(y);
        String before = seen(y);
        for (int n : new int[] {0, -1, 121, 260, 261, Integer.MAX_VALUE, Integer.MIN_VALUE}) {
            due("orders(" + n + ")", y.orders(n), NONE);
        }
        stays("orders of no such n", y, before, 260);
        due("the bytes stay", y.orders(120), 16);
        due("orders(1) of an empty tape", y.orders(1), NONE);
        feedText(y, "~1;~1;~1;~1;~1;~1;~1");
        due("orders(21) of 20 bytes", y.orders(21), NONE);
        due("the tape", y.count(6), 20);
        due("orders(20) of 20 bytes", y.orders(20), 7);
    }

    private static void ordersAt(String ahead, Object... pairs) {
        for (int b = 0; b < 256; b++) {
            due("orders " + ahead + " and byte " + b, orders(of("a-b1-c2"), ahead + (char) b),
                    answerFor(b, -1000 - ahead.length(), pairs));
        }
    }

    private static void ordersBytes() {
        says(5, "FAULTS: 1; 2 a digit too many, at it");
        ordersAt("", "abc#~", -1001, "defghijklmnop", -7000);
        ordersAt("a", "@+-", -1002);
        ordersAt("a@", "012345678", 1);
        ordersAt("a@1", ";", -1004);
        ordersAt("a+", DIGITS, 1);
        ordersAt("a-", DIGITS, 1);
        ordersAt("a+1", DIGITS, 1, ";", -1004);
        ordersAt("a-1234", ";", -1007, DIGITS, -2006);
        ordersAt("a+1234", ";", -1007, DIGITS, -2006);
        ordersAt("#", "01", -1002, "23456789", -7001);
        ordersAt("#0", "!?", 1, "01", -1003, "23456789", -7001);
        ordersAt("#1", "!?", 1, DIGITS, -7001);
        ordersAt("#01", "!?", 1, DIGITS, -2003);
        ordersAt("#0!", ";", -1004);
        ordersAt("#0?", ";", -1004);
        ordersAt("~", DIGITS, 1);
        ordersAt("~12345", DIGITS, 1, ";", -1007);
        ordersAt("~123456", ";", -1008, DIGITS, -2007);
        ordersAt("~1;", "abc#~", -1004, "defghijklmnop", -7003);
    }

    private static void ordersEnds() {
        says(5, "FAULTS: 1; 2 a digit too many, at it");
        String text = "a@8;b+12;#01!;~77";
        int[] wants = {-1001, -1002, 1, -1004, -1005, -1006, 2, 2, -1009, -1010, -1011, -1012, 3, -1014, -1015, 4, 4};
        for (int n = 1; n <= text.length(); n++) {
            SorrowPipes x = of("a-b1-c2");
            feedText(x, text);
            due("orders " + text.substring(0, n), x.orders(n), wants[n - 1]);
        }
    }

    private static void ordersBlanks() {
        says(5, "ORDERS: a TEXT of at most 120 bytes, no blanks");
        String text = "a@8;b+12;#01!;~77";
        for (int i = 0; i <= text.length(); i++) {
            String blank = text.substring(0, i) + " " + text.substring(i);
            due("orders " + blank, orders(of("a-b1-c2"), blank), -1000 - i);
        }
    }

    private static void ordersAre(Object[][] texts) {
        for (Object[] each : texts) {
            due("orders " + each[0], orders(of("a-b1-c2"), (String) each[0]), (Integer) each[1]);
        }
    }

    private static void ordersDigits() {
        says(5, "@ and a digit 0 to 8 (TURN)");
        ordersAre(new Object[][] {{"a@0", 1}, {"a@8", 1}, {"a@9", -1002}, {"a@00", -1003}, {"a@10", -1003}, {"a@", -1002}});

        says(5, "numbers of one to six digits (of a PIPE one or two, of SORROW one to four)");
        SorrowPipes x = of("a-b1-c2");
        int[][] seas = {{1, 0}, {1, 9}, {6, 999999}, {6, 7}, {6, 0}};
        for (int[] each : seas) {
            String number = String.format("%0" + each[0] + "d", each[1]);
            due("orders ~" + number, orders(x, "~" + number), 1);
            due("the sea by " + number, x.count(4), each[1]);
        }
        due("orders", orders(x, "a+9;b+0012;c+9999;#1!;#00!"), 5);
        due("sorrow by 1 digit", x.cornerIs(0, 1), 9);
        due("sorrow by 4 digits, 0 ahead", x.cornerIs(1, 1), 12);
        due("sorrow by 4 digits", x.cornerIs(2, 1), 9999);
        due("a pipe by 1 digit", x.pipeIs(1, 3), 0);
        due("a pipe by 2 digits", x.pipeIs(0, 3), 0);

        says(5, "2 a digit too many, at it");
        ordersAre(new Object[][] {
            {"~0000000", -2007}, {"~9999990", -2007}, {"a+00000", -2006}, {"a-99990", -2006}, {"#000!", -2003}, {"#001", -2003},
            {"#990!", -2003}, {"~1;b+12345?", -2009},
        });
    }

    private static void ordersLines() {
        says(5, "LINES with a ; (59) between two (20 at most)");
        String twenty = "a@1;".repeat(19) + "a@2";
        SorrowPipes x = of("a-b1-c2");
        due("20 lines", orders(x, twenty), 20);
        due("20 lines: the last", x.cornerIs(0, 2), 2);

        says(5, "4 a 21st LINE, at its first byte (if that can stand there)");
        for (int b = 0; b < 256; b++) {
            boolean canStand = b >= 'a' && b <= 'p' || b == '#' || b == '~';
            due("a 21st of byte " + b, orders(of("a-b1-c2"), twenty + ";" + (char) b), canStand ? -4080 : -1080);
        }
        due("the end in its place", orders(of("a"), twenty + ";"), -1080);
        due("a fault of the 20th", orders(of("a"), "a@1;".repeat(19) + "a@9;a@1"), -1078);

        says(5, "(7 behind 4)");
        due("a 21st of a corner that is not told", orders(of("a"), twenty + ";p@1"), -4080);
        due("a 20th of a corner that is not told", orders(of("a"), "a@1;".repeat(19) + "p@1;a@1"), -7076);
        due("a 21st of a pipe there is not", orders(of("a"), twenty + ";#0!"), -4080);
        due("a 20th of a pipe there is not", orders(of("a"), "a@1;".repeat(19) + "#0!;a@1"), -7077);
    }

    private static void ordersNotThere() {
        says(5, "7 a CORNER that is not told, at its letter; a PIPE there is not, at its first digit (asked when it ends)");
        ordersAre(new Object[][] {
            {"d@1", -7000}, {"p+5", -7000}, {"d", -7000}, {"d?", -7000}, {"a@1;d@1", -7004}, {"#2!", -7001}, {"#02?", -7001},
            {"#2", -7001}, {"#2x", -7001}, {"#24!", -7001}, {"#99?", -7001}, {"#020", -2003}, {"#200", -2003}, {"a@1;#2!", -7005},
            {"#1!", 1}, {"#0?", 1}, {"#10!", -7001}, {"#0", -1002},
        });
        due("no town: a corner", orders(new SorrowPipes(), "a@1"), -7000);
        due("no town: a pipe", orders(new SorrowPipes(), "#0!"), -7001);
        due("no town: the sea", orders(new SorrowPipes(), "~1"), 1);
        String full = "a" + "-b1-a1".repeat(12);
        due("pipe 23 of 24", orders(of(full), "#23!"), 1);
        due("pipe 24 of 24", orders(of(full), "#24!"), -7001);
    }

    private static void ordersFirstFault() {
        says(5, "FAULTS: 1; 2 a digit too many, at it; 4 a 21st LINE, at its first byte (if that can stand there); 7");
        ordersAre(new Object[][] {
            {"d@1;a+12345", -7000}, {"a+12345;d@1", -2006}, {"?;d@1", -1000}, {"#9!;?", -7001}, {"a@9;#9!", -1002},
            {"a@1;".repeat(20) + "d@1", -4080}, {"d@1;" + "a@1;".repeat(19) + "a", -7000},
        });
    }

    private static void ordersBounds() {
        says(5, "+ or - and a number (SORROW more or less; beyond 0 to 9999 the bound)");
        SorrowPipes x = of("a-b1-c2;p");
        int[][] lines = {{'+', 9998, 9998}, {'+', 1, 9999}, {'+', 0, 9999}, {'+', 1, 9999}, {'+', 9999, 9999}, {'-', 1, 9998},
            {'-', 9998, 0}, {'-', 0, 0}, {'-', 1, 0}, {'+', 5, 5}, {'-', 6, 0}, {'-', 9999, 0}};
        for (int[] each : lines) {
            String text = "p" + (char) each[0] + each[1];
            due("orders " + text, orders(x, text), 1);
            due("sorrow behind " + text, x.cornerIs(15, 1), each[2]);
        }
        due("the bound is met line by line", orders(x, "a+9999;a+9;a-9;b-9;b+9"), 5);
        due("from above", x.cornerIs(0, 1), 9990);
        due("from below", x.cornerIs(1, 1), 9);
        due("THE SEA is not asked", x.count(4), 9999);
        due("nothing is WEPT", x.count(9), 0);

        says(5, "# and a number (PIPE) and ! (CLOSED) or ? (OPEN)");
        due("open what is open, close what is closed", orders(x, "#0?;#1!;#1!"), 3);
        due("open", x.pipeIs(0, 3), 1);
        due("closed", x.pipeIs(1, 3), 0);

        says(5, "~ and a number (126: THE SEA)");
        due("the last counts", orders(x, "~999999;~0"), 2);
        due("the sea", x.count(4), 0);
        due("the most", orders(x, "~999999"), 1);
        due("the sea", x.count(4), 999999);
    }

    /** A line and the one that takes it back leave all as it was, so each changes what it names and nothing else. */
    private static void ordersChangeNothingElse() {
        says(5, "a letter, then @ and a digit 0 to 8 (TURN), or + or - and a number (SORROW more or less; "
                + "beyond 0 to 9999 the bound); or # and a number (PIPE) and ! (CLOSED) or ? (OPEN); "
                + "or ~ and a number (126: THE SEA)");
        SorrowPipes x = rich();
        String before = seen(x);
        String[] there = {"b@7", "c+8", "a-1", "#0!", "#1?", "~77"};
        String[] back = {"b@3", "c-8", "a+1", "#0?", "#1!", "~" + x.count(4)};
        for (int i = 0; i < there.length; i++) {
            due("orders " + there[i], orders(x, there[i]), 1);
            due("something is other by " + there[i], seen(x).equals(before), false);
            due("orders " + back[i], orders(x, back[i]), 1);
            stays(back[i], x, before, 0);
        }
    }

    private static void ordersFaultDoesNothing() {
        says(5, "Nothing is done by ORDERS with a FAULT.");
        SorrowPipes x = rich();
        String before = seen(x);
        String ahead = "a+1;b@8;b-4;#1?;#0!;~9;";
        String[] ends = {"", "q", "a@9", "a+12345", "#123", "d@1", "#2!", "~1234567", "a@1;".repeat(14) + "a@1"};
        int[] faults = {-1023, -1023, -1025, -2029, -2026, -7023, -7024, -2030, -4079};
        for (int i = 0; i < ends.length; i++) {
            due("orders .. " + ends[i], orders(x, ahead + ends[i]), faults[i]);
            stays("a fault", x, before, 0);
        }
    }
}
