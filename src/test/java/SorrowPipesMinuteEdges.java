import java.io.IOException;

/** The edges of a new object, of minutes and of the law in them, of what is kept (promises 1, 3, 6, 7, 10, 26 to 30). */
public final class SorrowPipesMinuteEdges extends Dues {
    private static final int[] WILD = {Integer.MIN_VALUE, Integer.MIN_VALUE + 1, -1000, Integer.MAX_VALUE - 1, Integer.MAX_VALUE};

    public static void main(String[] args) throws IOException {
        newObject();
        newObjectWithoutLaw();
        riseBounds();
        outBounds();
        frozenOrNot();
        firstRule();
        partsAndTests();
        thirtyTwoBits();
        dividedByNothing();
        asMuchAsMatters();
        letterPipes();
        letterAmounts();
        letterMinute();
        letterDraw();
        minutesSpans();
        lastMinute();
        risesLeast();
        flowsLeast();
        comesOutLeast();
        weptMost();
        draws();
        triedNothingChanges();
        triedWhats();
        dryEdges();
        seeds();
        keepEdges();
        undoEdges();
        undoInOtherTowns();
        checkEdges();
        countEdges();
        areInDocument(args);
        end("the edges of minutes hold");
    }

    private static SorrowPipes still(String town, String orders) {
        return of(town, orders, "r0(1=1)");
    }

    // ---- promise 1

    private static void newObject() {
        says(1, "No CORNERS, LAW; THE SEED 1.");
        SorrowPipes x = new SorrowPipes();
        int[] counts = {0, 0, 0, 0, 9999, 0, 0, 1, 0, 0, 0};
        for (int what = 0; what < counts.length; what++) {
            due("count(" + what + ")", x.count(what), counts[what]);
        }
        for (int c = 0; c < 16; c++) {
            due("cornerIs(" + c + ", 0)", x.cornerIs(c, 0), NONE);
        }
        due("pipeIs(0, 0)", x.pipeIs(0, 0), NONE);
        due("undo()", x.undo(), false);
        due("check(0)", x.check(0), NONE);
        due("a law of none", law(x, ""), NONE);

        says(1, "THE SEA has so much (0 to 999999; 9999 at first). THE MINUTE (0 at first).");
        due("minutes(100) without corners", x.minutes(100), 0);
        due("THE SEA", x.count(4), 9999);
        due("THE MINUTE", x.count(0), 100);
        due("X: nobody draws", x.count(7), 1);
        due("another object begins anew", new SorrowPipes().count(0), 0);

        says(1, "told or not, HEIGHT (0 to 99), SORROW (0 to 9999; 0 at first), TURN (0 to 8 eighths; 0 at first), "
                + "WEPT (0 at first; 999999 at most).");
        SorrowPipes y = of("p");
        for (int what = 0; what <= 5; what++) {
            due("cornerIs(15, " + what + ")", y.cornerIs(15, what), 0);
        }
    }

    private static void newObjectWithoutLaw() {
        says(1, "No CORNERS, LAW; THE SEED 1.");
        SorrowPipes x = of("a;b", "a@8;b+5");
        due("by no law an eighth gives 1, 1 rises", x.minutes(1), 1);
        due("b", x.cornerIs(1, 1), 6);
        due("THE SEA", x.count(4), 9997);
        due("the first draws of 1", x.count(7), nextX(1, 3));
    }

    // ---- promise 3: the law in a minute

    private static int riseBy(String sum) {
        SorrowPipes x = of("a");
        due("law r" + sum, law(x, "r" + sum + "(1=1)"), 1);
        int risen = x.tried(1, 10);
        due("THE SEA by r" + sum, x.tried(1, 1), 9999 - risen);
        return risen;
    }

    private static int outBy(String sum) {
        SorrowPipes x = of("a", "a+9999;a@1");
        due("law o" + sum, law(x, "r0(1=1);o" + sum + "(1=1)"), 2);
        return x.tried(1, 0);
    }

    private static void riseBounds() {
        says(3, "r by how much SORROW rises from THE SEA in a MINUTE (0 to 99; none: 1)");
        Object[][] sums = {{"0", 0}, {"1", 1}, {"98", 98}, {"99", 99}, {"100", 99}, {"99999", 99}, {"0-1", 0}, {"0-99999", 0}};
        for (Object[] each : sums) {
            due("r" + each[0], riseBy((String) each[0]), (Integer) each[1]);
        }
        for (String law : new String[] {"o7(1=1)", "x(1=1)", "r7(1=2)", "r7(1=2);r8(2=1);o9(1=1)"}) {
            due("none by " + law, of("a", "a+1", law).tried(1, 10), 2);
        }
    }

    private static void outBounds() {
        says(3, "o how much comes out by an eighth (0 to 99; none: 1)");
        Object[][] sums = {{"0", 0}, {"1", 1}, {"98", 98}, {"99", 99}, {"100", 99}, {"99999", 99}, {"0-1", 0}, {"0-99999", 0}};
        for (Object[] each : sums) {
            due("o" + each[0], outBy((String) each[0]), (Integer) each[1]);
        }
        for (String law : new String[] {"r7(1=1)", "o7(1=2)", "o7(1=2);o8(2=1);x(1=2)"}) {
            due("none by " + law, of("a", "a+50;a@3", law).tried(1, 0), 3);
        }
    }

    private static void frozenOrNot() {
        says(3, "x it is frozen: nothing comes out (any will do; without an x in THE LAW none is)");
        Object[][] laws = {
            {"o5(1=1)", 5}, {"o5(1=1);x(1=2)", 5}, {"o5(1=1);x(1=1)", 0}, {"x(1=1);o5(1=1)", 0},
            {"x(1=2);x(1=1);o5(1=1)", 0}, {"x(1=1);x(1=2);o5(1=1)", 0}, {"x(1=2);o5(1=1);x(2=1);x(3=3)", 0},
            {"x(1=2);x(2=1);o5(1=1)", 5}, {"x(1/0=1);o5(1=1)", 5}, {"x(1/0=1);x(1=1);o5(1=1)", 0},
        };
        for (Object[] each : laws) {
            SorrowPipes x = of("a", "a+50;a@1;~0", (String) each[0]);
            due("what comes out by " + each[0], x.minutes(1), (Integer) each[1]);
            due("SORROW by " + each[0], x.cornerIs(0, 1), 50 - (Integer) each[1]);
            due("WEPT by " + each[0], x.cornerIs(0, 3), (Integer) each[1]);
        }
        SorrowPipes y = of("a", "a+50;a@1", "x(1=1)");
        due("it rises where it is frozen", y.tried(1, 10), 51);
    }

    private static void firstRule() {
        says(3, "of the first RULE of r, o whose C holds the E (beyond its bounds the bound)");
        Object[][] laws = {
            {"r5(1=1);r6(1=1)", 5}, {"r5(1=2);r6(1=1)", 6}, {"o5(1=1);r6(1=1);r7(1=1)", 6}, {"r5(1=2);r500(1=1);r6(1=1)", 99},
            {"r0-5(1=1);r6(1=1)", 0}, {"r5/0(1=1);r6(1=1)", 0}, {"r5(1/0=0);r6(1=1)", 6},
        };
        for (Object[] each : laws) {
            due("the rise by " + each[0], of("a", "~9999", (String) each[0]).tried(1, 10), (Integer) each[1]);
        }
        due("the first of o", of("a", "a+50;a@1", "r9(1=1);o3(1=2);o4(1=1);o5(1=1)").tried(1, 0), 4);
    }

    private static void partsAndTests() {
        says(3, "PARTS with a | between two, one of which must hold; a PART: TESTS with an & between two, all of which must");
        Object[][] conditions = {
            {"1=2|1=2", false}, {"1=2|1=1", true}, {"1=1|1=2", true}, {"1=1&1=2", false}, {"1=2&1=1", false}, {"1=1&1=1", true},
            {"1=1|1=1&1=2", true}, {"1=2&1=1|1=1", true}, {"1=1&1=2|1=2&1=1", false}, {"(1=1|1=1)&1=2", false},
            {"1=2|1=2|1=1", true}, {"1=1&1=1&1=2", false}, {"!1=2&1=2", false}, {"!(1=2&1=2)", true}, {"!1=1|1=1", true},
            {"!(1=1|1=1)", false}, {"!!1=1", true}, {"!!!1=1", false}, {"1<1", false}, {"1>1", false}, {"1<2", true},
            {"2<1", false}, {"2>1", true}, {"1>2", false}, {"2=1", false}, {"0-1<0", true}, {"0-1>0", false}, {"!1<2", false}, {"!2>1", false},
            {"!1>2", true}, {"!2<1", true}, {"!!1<2", true}, {"!!2>1", true},
        };
        for (Object[] each : conditions) {
            due("(" + each[0] + ")", of("a", "~99", "r9(" + each[0] + ");r0(1=1)").tried(1, 10), (Boolean) each[1] ? 9 : 0);
        }

        says(3, "TERMS with + or - between two; a TERM: FACTORS with one of * / % between two; from the left on");
        Object[][] sums = {{"20-5-3", 12}, {"20-[5-3]", 18}, {"2+3*4", 14}, {"2*3+4", 10}, {"[2+3]*4", 20}, {"40/5*2", 16},
            {"40/[5*2]", 4}, {"7*3%4", 1}, {"7*[3%4]", 21}, {"50%30/3", 6}, {"99-2*3*4+1", 76}, {"60/7/2", 4}, {"20-8/3-1", 17}};
        for (Object[] each : sums) {
            due("r" + each[0], riseBy((String) each[0]), (Integer) each[1]);
        }
    }

    private static void thirtyTwoBits() {
        says(3, "All is reckoned with 32 bits, as the machine does");
        Object[][] sums = {
            {"65536*32767+65535", 99}, {"65536*32767+65535+1", 0}, {"[65536*32767+65535+1]/[0-1]", 0},
            {"[65536*32767+65535+1]%[0-1]+7", 7}, {"65536*65536+5", 5}, {"[0-65536*32768]-1", 99}, {"[0-7]/2+10", 7},
            {"[0-7]%4+10", 7}, {"7%[0-4]+10", 13}, {"7/[0-2]+10", 7}, {"99999*99999/10000/10000", 14},
            {"9/1", 9}, {"9%1+5", 5}, {"[0-9]/[0-1]", 9}, {"9/[0-1]+20", 11}, {"[0-9]%[0-1]+5", 5}, {"0/9+5", 5},
        };
        for (Object[] each : sums) {
            due("r" + each[0], riseBy((String) each[0]), (Integer) each[1]);
        }
        due("a test over the edge", of("a", "~9", "r5(65536*32767+65535<0);r6(65536*32767+65536<0)").tried(1, 10), 6);
    }

    private static void dividedByNothing() {
        says(3, "what is divided by 0 is REFUSED: then the whole C of the RULE does not hold, the E of it is 0.");
        for (String sum : new String[] {"5/0", "5%0", "7+5/0", "5/0+7", "0/0", "9-[3%[1-1]]", "s*1/s+9", "0*[1/0]+9"}) {
            due("r" + sum, riseBy(sum), 0);
        }
        due("o5/0", outBy("5/0"), 0);
        due("o7+5%0", outBy("7+5%0"), 0);
        for (String c : new String[] {"1/0=1", "!1/0=1", "!(1/0=1)", "1=1&!1%0=0", "1/0=1|1=1", "1=2|1/0=1", "!(!(1/0=1)|1=1)",
            "1=1&(1=2|1=1/0)&1=1", "!!1/0=0", "0/0=0", "(1/0=0|1=1)|1=1"}) {
            due("r5(" + c + ")", of("a", "~99", "r5(" + c + ");r7(1=1)").tried(1, 10), 7);
            due("x(" + c + ")", of("a", "a+9;a@1;~0", "x(" + c + ")").tried(1, 0), 1);
        }
        due("only this RULE's", of("a", "a+9;a@1", "r5(1/0=1);r6(1/0=1);r7(1=1);o3(1%0=1);o4(1=1)").tried(1, 10), 12);
    }

    private static void asMuchAsMatters() {
        says(3, "Of a C as much is asked, from the left, as matters.");
        for (String c : new String[] {"1=1|1/0=1", "1=2&1/0=1|1=1", "1=1|1=1&1/0=1", "!(1=2&1/0=1)", "(1=1|1/0=1)&1=1",
            "1=2|1=1|1/0=1", "1=2&1/0=1&1/0=1|1=1", "!(!(1=1|1/0=1))", "1=2&(1/0=1|1/0=1)|1=1", "(1=2&1/0=1)|1=1", "1<2|1/0=1",
            "2>1|1/0=1", "2<1&1/0=1|1=1", "1>2&1/0=1|1=1", "!1=2|1/0=1", "!1<2&1/0=1|1=1"}) {
            due("r5(" + c + ")", of("a", "~99", "r5(" + c + ");r7(1=1)").tried(1, 10), 5);
        }
        for (String c : new String[] {"1=1&1/0=1|1=1", "1=2|1/0=1|1=1", "(1=2|1/0=1)|1=1", "1=1&1=1&1/0=1|1=1"}) {
            due("r5(" + c + ")", of("a", "~99", "r5(" + c + ");r7(1=1)").tried(1, 10), 7);
        }
        due("a C that does not hold: its E is not asked", of("a", "~99", "r5/0(1=2);r7(1=1)").tried(1, 10), 7);
        due("a rule behind the first one that holds is not asked", of("a", "~99", "r5(1=1);r7(1/0=1)").tried(1, 10), 5);
    }

    /** What rises at b alone by the sum; a, c, d and the others rise by nothing. */
    private static int atB(SorrowPipes x, String sum) {
        int sea = x.count(4);
        due("law of " + sum, law(x, "r" + sum + "(c=1);r0(1=1)"), 2);
        return sea - x.tried(1, 1);
    }

    private static void letterPipes() {
        says(3, "n how many OPEN PIPES it has (each of two to one CORNER counts)");
        SorrowPipes x = of("a-b1;b-a2;b-c3;c-d4;d-a5", "a+7;c+44;d+90;b+55");
        due("n", atB(x, "n"), 3);
        orders(x, "#0!");
        due("n, one of two closed", atB(x, "n"), 2);
        orders(x, "#1!;#2!");
        due("n, none open", atB(x, "n"), 0);

        says(3, "m the most SORROW of those its OPEN PIPES go to (none: 0)");
        due("m, none open", atB(x, "m"), 0);
        due("m, none open, is 0 and no less", atB(x, "m+5"), 5);
        orders(x, "#0?");
        due("m, to a alone (not b's own)", atB(x, "m"), 7);
        orders(x, "#2?");
        due("m, to a and c (not to d)", atB(x, "m"), 44);
        orders(x, "c-9999;a-9999");
        due("m of those without SORROW", atB(x, "m"), 0);

        says(3, "c the CORNER, h its HEIGHT, s its SORROW, u its TURN");
        SorrowPipes y = of("a=1;b=99;p=3", "b+98;b@8");
        due("c", atB(y, "c"), 1);
        due("h", atB(y, "h"), 99);
        due("s", atB(y, "s"), 98);
        due("u", atB(y, "u"), 8);
        due("u of 0", atB(of("b"), "9-u"), 9);
        law(y, "rc(c=15);r50(c=0);r0(1=1)");
        due("c of p", y.tried(1, 25), 15);
        SorrowPipes z = of("a=1;b=2;p=3", "a+50;b+50;p+50;a@1;b@1;p@2", "r0(1=1);o10*h+c(c<9);o7(c=15);x(h=2)");
        due("o asked of a", z.tried(1, 30), 10);
        due("x asked of b", z.tried(1, 31), 0);
        due("o asked of p", z.tried(1, 45), 14);
    }

    private static void letterAmounts() {
        says(3, "q WEPT there through 100, a THE SEA through 100");
        SorrowPipes x = of("b", "b+9999;b@1", "r0(1=1);o99(1=1)");
        x.minutes(1);
        due("q of 99", atB(x, "q"), 0);
        law(x, "r0(1=1)");
        x.minutes(1);
        due("q of 100", atB(x, "q"), 1);
        int[][] seas = {{0, 0}, {99, 0}, {100, 1}, {199, 1}, {9899, 98}, {9900, 99}, {999999, 99}};
        for (int[] each : seas) {
            orders(x, "~" + each[0]);
            due("a of " + each[0], atB(x, "a"), each[1]);
        }
        due("a of 999999 is 9999", atB(x, "a-9990"), 9);
        SorrowPipes y = of("a;b", "~199", "r99(c=0);ra(c=1)");
        due("a of what THE SEA has then", y.tried(1, 11), 1);
        SorrowPipes z = of("a;b", "~199", "r99(c=0);r50-a(c=1)");
        due("a of what THE SEA has then", z.tried(1, 11), 49);
    }

    private static void letterMinute() {
        says(3, "t THE MINUTE modulo 100");
        SorrowPipes x = still("b", "b@0");
        due("t of 0", atB(x, "t"), 0);
        x.minutes(99);
        due("t of 99", atB(x, "t"), 99);
        law(x, "r0(1=1)");
        x.minutes(1);
        due("t of 100", atB(x, "t"), 0);
        x.minutes(57);
        due("t of 157", atB(x, "t"), 57);
        SorrowPipes y = of("a", "a@1;a+9", "r5(t=0);r6(t=1);r0(1=1);o2(t=0);o3(t=1);o0(1=1)");
        due("t is the same in all of a MINUTE", y.tried(1, 0), 2);
        due("t is one more in the next", y.tried(2, 0), 5);
        due("t of both", y.tried(5, 10), 9 + 11 - 5);
    }

    private static void letterDraw() {
        says(3, "w the DRAW");
        boolean[] met = new boolean[10];
        for (int seed = 0; seed < 60; seed++) {
            SorrowPipes x = of("b");
            x.seed(seed);
            int drawn = nextX(seed) % 10;
            met[drawn] = true;
            due("w by the seed " + seed, atB(x, "w"), drawn);
        }
        due("0 is drawn", met[0], true);
        due("9 is drawn", met[9], true);
        SorrowPipes y = of("b");
        y.seed(1234);
        due("one DRAW for all w", atB(y, "10*w+w-w"), 10 * (nextX(1234) % 10));
    }

    // ---- promise 6

    private static void minutesSpans() {
        says(6, "MINUTES (1 to 100; as many as can) go by: how much is WEPT in them; NONE: no such n.");
        SorrowPipes x = of("a", "a+500;a@2", "r0(1=1)");
        due("minutes(1)", x.minutes(1), 2);
        due("THE MINUTE", x.count(0), 1);
        due("minutes(100)", x.minutes(100), 200);
        due("THE MINUTE", x.count(0), 101);
        feedText(x, "abc");
        String before = seen(x);
        for (int n : new int[] {0, -1, 101, 102}) {
            due("minutes(" + n + ")", x.minutes(n), NONE);
        }
        for (int n : WILD) {
            due("minutes(" + n + ")", x.minutes(n), NONE);
        }
        stays("minutes of no such n", x, before, 20);
        due("nothing is WEPT without a TURN", still("a", "a+5").minutes(100), 0);
    }

    private static void lastMinute() {
        says(6, "THE MINUTE is one more (9999 at most: then none goes by).");
        SorrowPipes x = of("a", "a+9999;a@1", "r0(1=1);o0(1=1)");
        for (int i = 0; i < 99; i++) {
            x.minutes(100);
        }
        due("minutes(98)", x.minutes(98), 0);
        due("THE MINUTE", x.count(0), 9998);
        law(x, "r0(1=1)");
        x.keep();
        due("tried(2, 0)", x.tried(2, 0), 1);
        due("minutes(1)", x.minutes(1), 1);
        due("THE MINUTE", x.count(0), 9999);
        String before = seen(x);
        due("minutes(1) behind the last", x.minutes(1), 0);
        due("minutes(100) behind the last", x.minutes(100), 0);
        stays("minutes behind the last", x, before, 0);
        due("a wrong n behind the last", x.minutes(101), NONE);

        says(7, "MINUTES (1 to 100; as many as can) that are tried");
        due("tried(100, 0)", x.tried(100, 0), 0);
        due("tried(100, 1)", x.tried(100, 1), 9999);
        due("tried(100, 10)", x.tried(100, 10), 9998);
        due("tried(100, 30)", x.tried(100, 30), 1);

        says(10, "DRY: behind how many of n MINUTES a CORNER has no SORROW first.");
        due("dry behind the last", x.dry(0, 100), -2);
        orders(x, "a-9999");
        due("dry behind the last: it is", x.dry(0, 100), 0);

        says(6, "(1 to 100; as many as can) go by");
        x.undo();
        due("THE MINUTE", x.count(0), 9998);
        due("minutes(100): one can", x.minutes(100), 1);
        due("THE MINUTE", x.count(0), 9999);
    }

    private static void risesLeast() {
        says(6, "SORROW is more by the least of r (with a DRAW of the CORNER), what THE SEA has, what is missing to 9999; "
                + "THE SEA has so much less.");
        int[][] cases = {
            // r, the sea, sorrow, the rise
            {10, 11, 9988, 10}, {10, 10, 9989, 10}, {10, 9, 0, 9}, {10, 1, 0, 1}, {10, 0, 0, 0}, {10, 100, 9990, 9},
            {10, 100, 9998, 1}, {10, 100, 9999, 0}, {10, 3, 9995, 3}, {10, 5, 9996, 3}, {0, 100, 0, 0}, {99, 999999, 9900, 99},
        };
        for (int[] each : cases) {
            SorrowPipes x = of("a", "a+" + each[2] + ";~" + each[1], "r" + each[0] + "(1=1)");
            x.minutes(1);
            due("SORROW of " + each[2] + " by r" + each[0] + ", ~" + each[1], x.cornerIs(0, 1), each[2] + each[3]);
            due("THE SEA of " + each[1] + " by r" + each[0], x.count(4), each[1] - each[3]);
        }
        says(6, "(1) each told CORNER, by numbers");
        SorrowPipes x = of("p;b;c", "~15", "r10(1=1)");
        x.minutes(1);
        due("b is the first", x.cornerIs(1, 1), 10);
        due("c has the rest", x.cornerIs(2, 1), 5);
        due("p has none", x.cornerIs(15, 1), 0);
        due("THE SEA", x.count(4), 0);
        due("who gets nothing draws, too", x.count(7), nextX(1, 3));
    }

    private static void flows(String town, String orders, int a, int b) {
        SorrowPipes x = still(town, orders);
        x.minutes(1);
        due("a by " + town + " " + orders, x.cornerIs(0, 1), a);
        due("b by " + town + " " + orders, x.cornerIs(1, 1), b);
    }

    private static void flowsLeast() {
        says(6, "gives the other one the least of WIDTH, half of what it has more (rounded down), its SORROW, "
                + "what is missing to 9999.");
        flows("a-b9", "a+100", 91, 9);
        flows("a-b9", "b+100", 9, 91);
        flows("a-b50", "a+100", 50, 50);
        flows("a-b49", "a+100", 51, 49);
        flows("a-b99", "a+7", 4, 3);
        flows("a-b99", "a+1", 1, 0);
        flows("a-b99", "a+2", 1, 1);
        flows("a-b99", "b+1", 0, 1);
        flows("a-b99", "b+3", 1, 2);
        flows("a-b99", "a+5;b+5", 5, 5);
        flows("a=5;a-b99", "b+5", 0, 5);
        flows("a=5;a-b99", "b+6", 0, 6);
        flows("a=5;a-b99", "b+7", 1, 6);
        flows("a=99;a-b99", "a+3", 0, 3);
        flows("a=99;a-b99", "b+3", 0, 3);
        flows("a=99;a-b99", "a+0", 0, 0);
        flows("b=99;a-b99", "b+48", 48, 0);
        flows("b=99;a-b99", "b+99", 99, 0);
        flows("a=99;a-b99", "a+9999;b+9998", 9998, 9999);
        flows("a=99;a-b99", "a+9999;b+9999", 9999, 9999);
        flows("b=99;a-b99", "b+9999;a+9990", 9999, 9990);
        flows("a-b9", "a+100;#0!", 100, 0);
        says(6, "(2) Each OPEN PIPE, by numbers");
        flows("a-b9-a8", "a+100", 83, 17);
        flows("a-b9-a8", "a+100;#0!", 92, 8);
        flows("b-c9;a-b9", "a+100", 91, 9);
        flows("a-b9;b-c9", "a+100", 91, 5);
    }

    private static void comesOutLeast() {
        says(6, "the least of TURN times o (x, o asked with another DRAW of it) and its SORROW comes out: WEPT more, SORROW less.");
        int[][] cases = {
            // turn, o, sorrow, out
            {1, 5, 6, 5}, {1, 5, 5, 5}, {1, 5, 4, 4}, {8, 99, 9999, 792}, {8, 99, 792, 792}, {8, 99, 791, 791}, {8, 0, 9, 0},
            {0, 99, 9, 0}, {3, 7, 0, 0}, {8, 1, 1, 1},
        };
        for (int[] each : cases) {
            SorrowPipes x = of("a", "a+" + each[2] + ";a@" + each[0], "r0(1=1);o" + each[1] + "(1=1)");
            String call = "minutes(1) by @" + each[0] + ", o" + each[1] + ", " + each[2];
            due(call, x.minutes(1), each[3]);
            due("SORROW behind " + call, x.cornerIs(0, 1), each[2] - each[3]);
            due("WEPT behind " + call, x.cornerIs(0, 3), each[3]);
            due("THE SEA behind " + call, x.count(4), 9999);
        }
        says(6, "(3) Each told CORNER with a TURN (without SORROW, too), by numbers, if x does not hold");
        SorrowPipes none = of("a;b", "~0");
        none.minutes(1);
        due("without a TURN nobody draws again", none.count(7), nextX(1, 2));
        SorrowPipes dry = of("a;b", "~0;b@1");
        dry.minutes(1);
        due("with a TURN, without SORROW", dry.count(7), nextX(1, 3));
        SorrowPipes frozen = of("a;b", "b@1;b+5", "x(1=1);r0(1=1)");
        frozen.minutes(1);
        due("frozen: the DRAW is drawn", frozen.count(7), nextX(1, 3));
        SorrowPipes both = of("a;b;c", "a@1;c@1;a+50;c+50", "r0(1=1);ow(1=1)");
        both.seed(4);
        both.minutes(1);
        due("a has the fourth DRAW", both.cornerIs(0, 3), nextX(4, 4) % 10);
        due("c has the fifth", both.cornerIs(2, 3), nextX(4, 5) % 10);
        SorrowPipes risen = of("a", "a@8", "r3(1=1);o9(1=1)");
        due("what rose comes out in the same MINUTE", risen.minutes(1), 3);
        SorrowPipes given = of("a-b9", "a+10;b@8", "r0(1=1);o9(1=1)");
        due("what was given comes out in the same MINUTE", given.minutes(1), 5);
    }

    private static void weptMost() {
        says(6, "WEPT (0 at first; 999999 at most)");
        SorrowPipes x = of("a;b", "a@8;b@1;b+1", "r0(1=1);o99(1=1)");
        int all = 0;
        for (int i = 0; i < 100; i++) {
            orders(x, "a+9999");
            all += x.minutes(13);
        }
        due("what came out", all, 999901);
        due("WEPT of a", x.cornerIs(0, 3), 999900);
        orders(x, "a+98");
        due("98 more", x.minutes(1), 98);
        due("WEPT of a", x.cornerIs(0, 3), 999998);
        orders(x, "a+9");
        due("tried: WEPT", x.tried(1, 30), 999999);
        due("9 more", x.minutes(1), 9);
        due("WEPT at its most", x.cornerIs(0, 3), 999999);
        due("SORROW is less all the same", x.cornerIs(0, 1), 0);
        orders(x, "a+9");
        due("9 more", x.minutes(1), 9);
        due("WEPT stays at its most", x.cornerIs(0, 3), 999999);
        due("WEPT of all", x.count(9), 1000000);
        due("q of the most", seaLess(x, "q-9900"), 99);
    }

    private static int seaLess(SorrowPipes x, String sum) {
        int sea = x.count(4);
        law(x, "r" + sum + "(c=0);r0(1=1)");
        return sea - x.tried(1, 1);
    }

    private static void draws() {
        says(6, "DRAWS: X = (25173 X + 13849) modulo 65536 (X is THE SEED at first, 1): X modulo 10.");
        for (int seed : new int[] {0, 1, 2, 9, 32767, 32768, 65534, 65535}) {
            SorrowPipes x = of("a");
            x.seed(seed);
            int drawn = seed;
            for (int i = 0; i < 20; i++) {
                drawn = nextX(drawn);
                due("X behind " + seed, seaLess(x, "w"), drawn % 10);
                x.minutes(1);
                due("X behind " + seed, x.count(7), drawn);
            }
        }
        SorrowPipes x = of("a;b;c;d;e;f;g;h;i;j;k;l;m;n;o;p",
                "a@1;b@1;c@1;d@1;e@1;f@1;g@1;h@1;i@1;j@1;k@1;l@1;m@1;n@1;o@1;p@1");
        x.minutes(100);
        due("3200 draws", x.count(7), nextX(1, 3200));
    }

    // ---- promises 7 and 10

    private static SorrowPipes busy() {
        SorrowPipes x = of("a=9;b-c7-a3;c-b4", "a+50;b+5;b@3;a@1;#1!;~1234", "rw(c=0);o5-w(1=1);x(w=9)");
        x.seed(77);
        x.minutes(2);
        return x;
    }

    private static void triedNothingChanges() {
        says(7, "TRIED are n MINUTES by the DRAWS that will come (nothing is changed).");
        SorrowPipes x = busy();
        feedText(x, "p");
        String before = seen(x);
        int out = x.tried(100, 0);
        int sea = x.tried(100, 1);
        int sorrow = x.tried(100, 2);
        int ofC = x.tried(100, 12);
        int weptOfB = x.tried(100, 31);
        due("dry tries, too", x.dry(0, 100) >= NONE - 1, true);
        stays("tried and dry", x, before, 20);
        due("what is tried comes so: out", x.minutes(100), out);
        due("what is tried comes so: THE SEA", x.count(4), sea);
        due("what is tried comes so: SORROW", x.count(8), sorrow);
        due("what is tried comes so: c", x.cornerIs(2, 1), ofC);
        due("what is tried comes so: WEPT of b", x.cornerIs(1, 3), weptOfB);
    }

    private static void triedWhats() {
        says(7, "10 + c SORROW, 30 + c WEPT of told CORNER c then; NONE: no such ones.");
        SorrowPipes x = of("a;p", "a+5;p+6;p@2;a@1", "r0(1=1)");
        int[][] whats = {{0, 3}, {1, 9999}, {2, 8}, {10, 4}, {25, 4}, {30, 1}, {45, 2}};
        for (int[] each : whats) {
            due("tried(1, " + each[0] + ")", x.tried(1, each[0]), each[1]);
        }
        String before = seen(x);
        for (int what : new int[] {-1, 3, 4, 9, 11, 24, 26, 29, 31, 44, 46, 100}) {
            due("tried(1, " + what + ")", x.tried(1, what), NONE);
        }
        for (int wild : WILD) {
            due("tried(1, " + wild + ")", x.tried(1, wild), NONE);
            due("tried(" + wild + ", 0)", x.tried(wild, 0), NONE);
        }
        for (int n : new int[] {0, -1, 101}) {
            due("tried(" + n + ", 0)", x.tried(n, 0), NONE);
            due("tried(" + n + ", 10)", x.tried(n, 10), NONE);
        }
        stays("tried of no such ones", x, before, 0);
        due("tried(100, 45)", x.tried(100, 45), 6);
        due("without corners", new SorrowPipes().tried(100, 0), 0);
        due("without corners: SORROW of all", new SorrowPipes().tried(100, 2), 0);
        due("without corners: THE SEA", new SorrowPipes().tried(100, 1), 9999);
        due("without corners: of a", new SorrowPipes().tried(100, 10), NONE);
    }

    private static void dryEdges() {
        says(10, "DRY: a told CORNER in n MINUTES (1 to 100; 0: it is); -2: not in these; NONE: no such ones.");
        SorrowPipes x = of("a;b;p", "a+100;a@1;p+101;p@1", "r0(1=1)");
        due("just in 100", x.dry(0, 100), 100);
        due("not in 99", x.dry(0, 99), -2);
        due("not in 100", x.dry(15, 100), -2);
        due("it is", x.dry(1, 1), 0);
        due("it is, in 100", x.dry(1, 100), 0);
        due("in 1", x.dry(0, 1), -2);
        String before = seen(x);
        for (int n : new int[] {0, -1, 101}) {
            due("dry(0, " + n + ")", x.dry(0, n), NONE);
            due("dry(1, " + n + ")", x.dry(1, n), NONE);
        }
        for (int c : new int[] {-1, 2, 14, 16}) {
            due("dry(" + c + ", 5)", x.dry(c, 5), NONE);
        }
        for (int wild : WILD) {
            due("dry(" + wild + ", 5)", x.dry(wild, 5), NONE);
            due("dry(0, " + wild + ")", x.dry(0, wild), NONE);
        }
        stays("dry", x, before, 0);
        x.minutes(99);
        due("behind 99 in 1", x.dry(0, 1), 1);

        says(10, "DRY: behind how many of n MINUTES a CORNER has no SORROW first.");
        SorrowPipes y = of("a", "a+3;a@1", "r9(t>2);r0(1=1)");
        due("first, though it rises again", y.dry(0, 100), 3);
        SorrowPipes z = of("a-b9", "a+1;b@1", "r0(1=1)");
        due("never: 1 more is not given", z.dry(0, 100), -2);
        SorrowPipes w = of("a", "a@1", "r1(1=1);o0(1=1)");
        due("it is, though it rises", w.dry(0, 5), 0);
    }

    // ---- promises 26 to 30

    private static void seeds() {
        says(26, "THE SEED (0 to 65535; X, too): true; false: no such number.");
        SorrowPipes x = busy();
        for (int seed : new int[] {0, 1, 65534, 65535}) {
            due("seed(" + seed + ")", x.seed(seed), true);
            due("X", x.count(7), seed);
        }
        feedText(x, "p");
        String before = seen(x);
        for (int seed : new int[] {-1, -65535, 65536, 65537, 131071}) {
            due("seed(" + seed + ")", x.seed(seed), false);
        }
        for (int seed : WILD) {
            due("seed(" + seed + ")", x.seed(seed), false);
        }
        stays("seeds of no such number", x, before, 20);
        SorrowPipes y = busy();
        int minute = y.count(0);
        int sorrow = y.count(8);
        y.seed(3);
        due("THE MINUTE stays", y.count(0), minute);
        due("SORROW stays", y.count(8), sorrow);
    }

    private static void keepEdges() {
        says(27, "KEPT: THE MINUTE.");
        SorrowPipes x = new SorrowPipes();
        due("keep() of a new object", x.keep(), 0);
        due("undo()", x.undo(), true);
        due("count(4)", x.count(4), 9999);
        SorrowPipes y = busy();
        feedText(y, "p");
        String before = seen(y);
        due("keep()", y.keep(), 2);
        stays("keep", y, before, 20);
        y.minutes(100);
        due("keep() again", y.keep(), 102);
        String then = seen(y);
        y.minutes(5);

        says(28, "UNDONE: as they were KEPT last");
        due("undo()", y.undo(), true);
        stays("undo", y, then, 20);
        due("undo() again", y.undo(), true);
        stays("undo again", y, then, 20);
    }

    private static void undoEdges() {
        says(28, "UNDONE: true; false: none was KEPT.");
        SorrowPipes x = busy();
        feedText(x, "p");
        String before = seen(x);
        due("undo() of none", x.undo(), false);
        stays("an undo that is refused", x, before, 20);

        says(28, "KEPT: CORNERS' SORROW, TURN, WEPT, THE SEA, PIPES OPEN or CLOSED, THE MINUTE, X");
        x.keep();
        x.check(0);
        x.minutes(9);
        orders(x, "a+77;b@8;c@1;#0!;#1?;~4");
        x.seed(9);
        due("undo()", x.undo(), true);
        stays("undo", x, before, 0);
        law(x, "r1(1=1)");
        feedText(x, "p");
        x.undo();
        due("THE LAW is not KEPT", x.count(5), 1);
        due("the tape is not KEPT", x.count(6), 20);
        SorrowPipes y = of("a");
        y.seed(500);
        y.keep();
        y.minutes(3);
        y.undo();
        due("X", y.count(7), 500);
    }

    private static void undoInOtherTowns() {
        says(28, "(CORNERS and PIPES are those there are now; a CORNER that was not told then has 0 of all, "
                + "a PIPE beyond those of then is OPEN)");
        SorrowPipes x = of("a=9;a-b5-c6", "a+11;b+22;c+33;a@1;b@2;c@3;#0!;~500", "r0(1=1)");
        x.minutes(1);
        int weptOfA = x.cornerIs(0, 3);
        int ofA = x.cornerIs(0, 1);
        x.keep();
        due("a greater town", town(x, "a=4;a-d9-e8-a7-d6"), 4);
        orders(x, "a+500;d+5;e+6;d@7;e@8;#0!;#1!;#2!;#3!");
        x.minutes(3);
        due("undo()", x.undo(), true);
        int[][] corners = {{4, ofA, 1, weptOfA}, {}, {}, {0, 0, 0, 0}, {0, 0, 0, 0}};
        for (int c = 0; c < corners.length; c++) {
            for (int what = 0; what < corners[c].length; what++) {
                due("cornerIs(" + c + ", " + what + ")", x.cornerIs(c, what), corners[c][what]);
            }
        }
        due("b is not told now", x.cornerIs(1, 1), NONE);
        due("SORROW of all", x.count(8), ofA);
        due("WEPT of all", x.count(9), weptOfA);
        int[] open = {0, 1, 1, 1};
        for (int p = 0; p < 4; p++) {
            due("pipe " + p, x.pipeIs(p, 3), open[p]);
            due("pipe " + p + " is the one there is now", x.pipeIs(p, 2), 9 - p);
        }
        due("no pipe more", x.pipeIs(4, 3), NONE);
        due("a lesser town", town(x, "c-b1"), 1);
        due("undo()", x.undo(), true);
        due("c has what it had then", x.cornerIs(2, 2), 3);
        due("pipe 0 was closed", x.pipeIs(0, 3), 0);
        due("count(3)", x.count(3), 0);
        due("count(2)", x.count(2), 1);
        undoOfFullAndEmptyTowns();
    }

    private static void undoOfFullAndEmptyTowns() {
        SorrowPipes x = new SorrowPipes();
        x.seed(7);
        x.keep();
        due("24 pipes", town(x, "a" + "-b1-a1".repeat(12)), 24);
        orders(x, "a+5;a@2;#0!;#23!;~3");
        x.minutes(4);
        due("undo() to no town", x.undo(), true);
        due("all pipes are beyond those of then", x.count(3), 24);
        due("told", x.count(1), 3);
        due("SORROW", x.count(8), 0);
        due("TURN", x.cornerIs(0, 2), 0);
        due("THE SEA", x.count(4), 9999);
        due("THE MINUTE", x.count(0), 0);
        due("X", x.count(7), 7);
        orders(x, "#0!;#23!");
        x.keep();
        orders(x, "#0?;#1!;#23?");
        x.undo();
        due("22 of 24", x.count(3), 22);
        due("pipe 0", x.pipeIs(0, 3), 0);
        due("pipe 1", x.pipeIs(1, 3), 1);
        due("pipe 23", x.pipeIs(23, 3), 0);
    }

    private static int checked(SorrowPipes x, int n, int... bytes) {
        x.check(0);
        feedBytes(x, bytes);
        return x.check(n);
    }

    private static void checkEdges() {
        says(29, "CHECK by the first n bytes of the tape (0 to 16; empty then; of CORNERS that are not told 255): NONE: right; "
                + "else the first that is not so");
        SorrowPipes x = of("a;b;p", "b@8;p@1");
        String before = seen(x);
        int u = 255;
        due("check(16)", checked(x, 16, 0, 8, u, u, u, u, u, u, u, u, u, u, u, u, u, 1), NONE);
        due("the tape", x.count(6), 0);
        due("p is not so", checked(x, 16, 0, 8, u, u, u, u, u, u, u, u, u, u, u, u, u, u), 15);
        due("o is not so", checked(x, 16, 0, 8, u, u, u, u, u, u, u, u, u, u, u, u, 0, 1), 14);
        due("check(15) does not ask p", checked(x, 15, 0, 8, u, u, u, u, u, u, u, u, u, u, u, u, u, 9), NONE);
        due("a told CORNER is not 255", checked(x, 1, u), 0);
        due("the first", checked(x, 2, 1, 1), 0);
        due("the second", checked(x, 2, 0, 9), 1);
        due("one that is not told is not 0", checked(x, 3, 0, 8, 0), 2);
        due("the tape", x.count(6), 0);
        feedBytes(x, 9, 9, 9);
        due("check(0) asks nothing", x.check(0), NONE);
        due("check(0) empties the tape", x.count(6), 0);
        due("check(0) of an empty tape", x.check(0), NONE);
        due("without corners", checked(new SorrowPipes(), 3, u, u, u), NONE);
        stays("check", x, before, 0);

        says(29, "-2: no such n, it has not so many (the tape stays).");
        due("check(1) of an empty tape", x.check(1), -2);
        feedBytes(x, 0, 8, u);
        for (int n : new int[] {-1, 17, 20, 21}) {
            due("check(" + n + ")", x.check(n), -2);
        }
        for (int n : WILD) {
            due("check(" + n + ")", x.check(n), -2);
        }
        stays("check of no such n", x, before, 20);
        due("the bytes stay", x.check(3), NONE);
    }

    private static void countEdges() {
        says(30, "NONE for others.");
        SorrowPipes x = busy();
        feedText(x, "p");
        String before = seen(x);
        for (int what : new int[] {-1, 11, 12, 100}) {
            due("count(" + what + ")", x.count(what), NONE);
        }
        for (int what : WILD) {
            due("count(" + what + ")", x.count(what), NONE);
        }
        stays("count", x, before, 20);

        says(30, "8 SORROW of all, 9 WEPT of all, 10 groups of told CORNERS that hang together by OPEN PIPES.");
        SorrowPipes full = of("a;b;c;d;e;f;g;h;i;j;k;l;m;n;o;p", "a+9999;b+9999;c+9999;p+9999");
        due("SORROW of all", full.count(8), 4 * 9999);
        due("groups of ones alone", full.count(10), 16);
        due("told", full.count(1), 65535);
        due("no corners", new SorrowPipes().count(10), 0);
        SorrowPipes ring = of("a-b1-c1-d1-e1-f1-g1-h1-i1-j1-k1-l1-m1-n1-o1-p1-a1");
        due("one group", ring.count(10), 1);
        orders(ring, "#3!");
        due("one group still", ring.count(10), 1);
        orders(ring, "#15!");
        due("two groups", ring.count(10), 2);
        due("OPEN ones", ring.count(3), 14);
        due("PIPES", ring.count(2), 16);
    }
}
