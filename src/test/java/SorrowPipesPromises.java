/** For each promise of the document calls whose answers are due by its words: ordinary ones, edges, wrong ones. */
public final class SorrowPipesPromises extends Dues {
    public static void main(String[] args) {
        aNewObject();
        feed();
        law();
        lawReckoned();
        lawLetters();
        town();
        orders();
        minutes();
        minutesAtTheirBounds();
        tried();
        cornerIs();
        pipeIs();
        dry();
        most();
        cut();
        widest();
        steps();
        bridges();
        brigades();
        painted();
        keptOpen();
        farthest();
        ring();
        highest();
        longest();
        byEighths();
        readings();
        hose();
        seed();
        keepAndUndo();
        check();
        count();
        end("all promises hold");
    }

    private static void aNewObject() {
        promise(1);
        SorrowPipes x = new SorrowPipes();
        int[] counts = {0, 0, 0, 0, 9999, 0, 0, 1, 0, 0, 0};
        for (int i = 0; i < counts.length; i++) {
            due("count(" + i + ")", x.count(i), counts[i]);
        }
        due("NONE", SorrowPipes.NONE, -1);
        due("undo()", x.undo(), false);
        due("minutes(1) without corners", x.minutes(1), 0);
        due("count(0)", x.count(0), 1);
        due("count(7): nobody draws", x.count(7), 1);
        due("count(4)", x.count(4), 9999);
    }

    private static void feed() {
        promise(2);
        SorrowPipes x = new SorrowPipes();
        for (int i = 1; i <= 13; i++) {
            due("feed " + i, x.feed(i, i, i, i, i), 20 * i);
        }
        due("feed 14", x.feed(1, 1, 1, 1, 1), NONE);
        due("count(6)", x.count(6), 260);
        due("law(240) of bytes 0", x.law(240), -1000);
        due("feed", x.feed('a' << 24 | '=' << 16 | '7' << 8 | ';', 'b' << 24 | '-' << 16 | 'c' << 8 | '9', 0, 0, 0), 20);
        due("town(8)", x.town(8), 1);
        due("cornerIs(0, 0)", x.cornerIs(0, 0), 7);
        due("pipeIs(0, 2)", x.pipeIs(0, 2), 9);
        x.feed(0, 0, 0, 0, 0);
        due("feed behind", x.feed(-1, -1, -1, -1, -1), 40);
        due("check(4): bytes are not behind each other", x.check(4), 3);
        x.feed(0x000000FF, 0xFFFFFFFF, 0xFF000000, 0, 0);
        due("check(9): bytes above 127", x.check(9), NONE);
    }

    private static void law() {
        promise(3);
        Object[][] texts = {
            {"r1(1=1)", 1}, {"x(1=1);r2(1<2);ow(w>3)", 3}, {"r12345(1=1)", 1}, {"r[[1]+2]*3(1=1|2=2&3=3)", 1},
            {"q", -1000}, {";", -1000}, {"a1(1=1)", -1000}, {"r", -1001}, {"r(1=1)", -1001}, {"r1", -1002},
            {"r1;", -1002}, {"x1(1=1)", -1001}, {"x(1=1", -1005}, {"x(1=1);", -1007}, {"x(1=1);;", -1007},
            {"x(1=1)x(1=1)", -1006}, {"x(1)", -1003}, {"x(1=1=1)", -1005}, {"x()", -1002}, {"x((1)=1)", -1004},
            {"r123456(1=1)", -2006}, {"x(1=123456)", -2009}, {"r-1(1=1)", -1001}, {"r[1(1=1)", -1003},
            {"r1](1=1)", -1002}, {"x(1=1 )", -1005}, {"x(C=1)", -1002}, {"x(d=1)", -1002}, {"x(r=1)", -1002},
            {"x(ss=1)", -1003}, {"x(s1=1)", -1003}, {"x([s]1=1)", -1005}, {"x(1=1&)", -1006}, {"x(1=1||1=1)", -1006},
            {"x(!)", -1003}, {"x(1!=1)", -1003}, {"x(1=!1)", -1004}, {"r1+(1=1)", -1003}, {"r1*/2(1=1)", -1003},
            {"x(1=1]", -1005}, {"x([1=1])", -1004}, {"r[](1=1)", -1002}, {"x(" + (char) 233 + "=1)", -1002},
            {"r[[[[[[1]]]]]](1=1)", 1}, {"r[[[[[[[1]]]]]]](1=1)", -5007}, {"x((((((1=1))))))", 1},
            {"x(((((((1=1)))))))", -5007}, {"x(!!!!!1=1)", 1}, {"x(!!!!!!1=1)", -5007}, {"x(!!!!!1=[1])", -5009},
            {"x(!!!!1=[1])", 1}, {"x(!1=1&!1=1&!1=1&!1=1&!1=1&!1=1&!1=1)", 1}, {"x(!(!(!1=1)))", 1},
            {"x(!(!(!(1=1))))", -5007}, {"x([[[[[1]]]]]=[[[[[1]]]]])", 1}, {"x([[[[[[1]]]]]]=1)", -5007},
            {"r[[[[[[1]]]]]](((((([1]=1))))))", -5020}, {"x(!!!!!(1=1))", -5007}, {"x(!!!!!)", -1007},
            {"x(!!!!!;)", -1007},
        };
        for (Object[] each : texts) {
            due("law " + each[0], law(new SorrowPipes(), (String) each[0]), (Integer) each[1]);
        }
        String sixteen = "x(1=1);".repeat(15) + "x(1=1)";
        due("16 rules", law(new SorrowPipes(), sixteen), 16);
        due("17 rules", law(new SorrowPipes(), sixteen + ";x(1=1)"), -4112);
        due("a 17th that ends", law(new SorrowPipes(), sixteen + ";r"), -4112);
        due("a 17th that can't stand", law(new SorrowPipes(), sixteen + ";s"), -1112);
        due("an end in place of a 17th", law(new SorrowPipes(), sixteen + ";"), -1112);
        String long240 = "x(1=1" + "+1".repeat(117) + ")";
        due("240 bytes", law(new SorrowPipes(), long240), 1);
        lawStays();
    }

    private static void lawStays() {
        SorrowPipes x = of("a");
        due("law", law(x, "r5(1=1);o2(1=1)"), 2);
        feedText(x, "r7(1=1");
        due("law(6)", x.law(6), -1006);
        due("the tape is empty behind a fault", x.count(6), 0);
        due("the rules of before stay", x.count(5), 2);
        due("the law of before stays", x.tried(1, 10), 5);
        feedText(x, "r7(1=1)");
        due("law(0)", x.law(0), NONE);
        due("law(21)", x.law(21), NONE);
        due("law(241)", x.law(241), NONE);
        due("law(-1)", x.law(-1), NONE);
        due("the tape stays", x.count(6), 20);
        due("law(7)", x.law(7), 1);
        due("the tape is empty", x.count(6), 0);
        due("count(5)", x.count(5), 1);
        due("another law", x.tried(1, 10), 7);
        for (int i = 0; i < 13; i++) {
            x.feed(0, 0, 0, 0, 0);
        }
        due("law(241) of 260 bytes", x.law(241), NONE);
        due("count(6)", x.count(6), 260);
    }

    /** How much comes from the sea in a minute to one corner by a law. */
    private static void rises(String law, int want) {
        SorrowPipes x = of("a");
        due("law " + law, law(x, law) > 0, true);
        due("the rise by " + law, x.tried(1, 10), want);
        due("the sea by " + law, x.tried(1, 1), 9999 - want);
    }

    private static void lawReckoned() {
        promise(3);
        rises("o3(1=1)", 1);
        rises("r7*3-2*5(1=1)", 11);
        rises("r20/3*3(1=1)", 18);
        rises("r20-3-2(1=1)", 15);
        rises("r20-[3-2](1=1)", 19);
        rises("r[2+3]*4(1=1)", 20);
        rises("r17%5(1=1)", 2);
        rises("r100(1=1)", 99);
        rises("r99(1=1)", 99);
        rises("r0-5(1=1)", 0);
        rises("r0(1=1)", 0);
        rises("r5(1=2)", 1);
        rises("r5(1=1);r6(1=1)", 5);
        rises("r5(1=2);o9(1=1);r6(1=1)", 6);
        rises("r5/0(1=1)", 0);
        rises("r5%0(1=1);r6(1=1)", 0);
        rises("r5+3/[1-1](1=1)", 0);
        rises("r5(1/0=1);r7(1=1)", 7);
        rises("r5(!1/0=1);r7(1=1)", 7);
        rises("r5(!(1/0=1)|1=1);r7(1=1)", 7);
        rises("r5(1=1|1/0=1);r7(1=1)", 5);
        rises("r5(1/0=1|1=1);r7(1=1)", 7);
        rises("r5(1=2&1/0=1|1=1);r7(1=1)", 5);
        rises("r5(1=1&1/0=1|1=1);r7(1=1)", 7);
        rises("r5((1=1|1/0=1)&2=2);r7(1=1)", 5);
        rises("r5(5%0=0);r7(1=1)", 7);
        rises("r99999*99999/10000/10000(1=1)", 14);
        rises("r[0-7]/2+10(1=1)", 7);
        rises("r[0-7]%4+10(1=1)", 7);
        rises("r65536*32768/[0-1](1=1)", 0);
        rises("r65536*32768%[0-1]+6(1=1)", 6);
        rises("r65536*32768-1(1=1)", 99);
        rises("r5(1<1);r6(1>1);r7(2>1)", 7);
        rises("r5(1<2)", 5);
        rises("r5(!1=1);r6(!!1=1)", 6);
        rises("r5(1=1&2=3|3=3&4=4)", 5);
        rises("r5(1=1&(2=3|3=3)&4=5);r6(1=1)", 6);
        rises("r5(0-1<0)", 5);
    }

    /** What rises at b alone, by the sum; the sea loses just this. */
    private static int riseAtB(SorrowPipes x, String sum) {
        int sea = x.count(4);
        law(x, "r" + sum + "(c=1);r0(1=1)");
        return sea - x.tried(1, 1);
    }

    private static void lawLetters() {
        promise(3);
        SorrowPipes x = of("a;b=12;a-b1;b-a2;b-c3;d", "b+30;b@5;a+7;c+44;d+90");
        String[] sums = {"c", "h", "s", "u", "n", "m", "q", "a", "t"};
        int[] wants = {1, 12, 30, 5, 3, 44, 0, 99, 0};
        for (int i = 0; i < sums.length; i++) {
            due("letter " + sums[i], riseAtB(x, sums[i]), wants[i]);
        }
        orders(x, "#2!;~4567");
        due("n of open pipes", riseAtB(x, "n"), 2);
        due("m of open pipes", riseAtB(x, "m"), 7);
        due("a of a sea of 4567", riseAtB(x, "a"), 45);
        orders(x, "#0!;#1!");
        due("m without pipes", riseAtB(x, "m"), 0);
        due("n without pipes", riseAtB(x, "n"), 0);
        x.seed(12345);
        due("w of the second draw", riseAtB(x, "w"), nextX(nextX(12345)) % 10);
        law(x, "r0(1=1);o99(1=1)");
        orders(x, "b+9999");
        due("minutes(1)", x.minutes(1), 495);
        due("q", riseAtB(x, "q"), 4);
        due("t", riseAtB(x, "t"), 1);
        law(x, "r0(1=1)");
        x.minutes(100);
        x.minutes(50);
        due("t modulo 100", riseAtB(x, "t"), 51);
        SorrowPipes y = of("a-b1");
        law(y, "r9(c=0);rm(c=1)");
        due("a later corner sees what rose ahead", y.tried(1, 1), 9999 - 18);
    }

    private static void town() {
        promise(4);
        Object[][] texts = {
            {"a", 0}, {"p", 0}, {"a=7", 0}, {"a=99", 0}, {"a=0", 0}, {"a;a;b", 0}, {"a-b1", 1}, {"a-b99-c05;d", 2},
            {"a-b1-a1", 2}, {"q", -1000}, {"A", -1000}, {"`", -1000}, {"ab", -1001}, {"a=", -1002}, {"a=x", -1002},
            {"a=1;", -1004}, {";a", -1000}, {"a;;b", -1002}, {"a-", -1002}, {"a-q1", -1002}, {"a-b", -1003},
            {"a-b-c1", -1003}, {"a-b1=3", -1004}, {"a=3-b1", -1003}, {"a=123", -2004}, {"a-b123", -2005},
            {"a-b0", -3003}, {"a-b00", -3003}, {"a-b000", -2005}, {"a-b0x", -3003}, {"a-b0-", -3003}, {"a-a1", -6002},
            {"a-b1-b1", -6005}, {"a-a", -6002}, {"a b", -1001}, {"a-b1 ", -1004}, {"a=5" + (char) 200, -1003},
        };
        for (Object[] each : texts) {
            due("town " + each[0], town(new SorrowPipes(), (String) each[0]), (Integer) each[1]);
        }
        String lines = "a;".repeat(23) + "a";
        due("24 lines", town(new SorrowPipes(), lines), 0);
        due("25 lines", town(new SorrowPipes(), lines + ";b-"), -4048);
        due("a 25th that can't stand", town(new SorrowPipes(), lines + ";q"), -1048);
        due("an end in place of a 25th", town(new SorrowPipes(), lines + ";"), -1048);
        String pipes = "a" + "-b1-a1".repeat(12);
        due("24 pipes", town(new SorrowPipes(), pipes), 24);
        due("a 25th pipe", town(new SorrowPipes(), pipes + "-b1"), -5073);
        due("a 25th pipe without a letter", town(new SorrowPipes(), pipes + "-"), -5073);
        due("a 25th pipe in another line", town(new SorrowPipes(), pipes + ";a-b1"), -5075);
        due("160 bytes", town(new SorrowPipes(), "a-b99;" + "a=11;".repeat(22) + "a" + "-b11-a11".repeat(5) + "-b9"), 12);
        townInPlace();
    }

    private static void townInPlace() {
        SorrowPipes x = of("a=9;a=8;b-c7", "a+50;b@3;#0!;~123");
        due("told twice", x.cornerIs(0, 0), 8);
        x.minutes(2);
        int drawn = x.count(7);
        feedText(x, "b-a5;c=x");
        due("a fault", x.town(8), -1007);
        due("the tape is empty", x.count(6), 0);
        due("all stays: told", x.count(1), 7);
        due("all stays: a pipe's width", x.pipeIs(0, 2), 7);
        due("all stays: sorrow", x.cornerIs(0, 1), 52);
        due("all stays: turn", x.cornerIs(1, 2), 3);
        due("town", town(x, "a-d4;b"), 1);
        due("told", x.count(1), 11);
        due("height", x.cornerIs(0, 0), 0);
        due("sorrow", x.count(8), 0);
        due("turn", x.cornerIs(1, 2), 0);
        due("wept", x.count(9), 0);
        due("open", x.pipeIs(0, 3), 1);
        due("not told any more", x.cornerIs(2, 0), NONE);
        due("the sea stays", x.count(4), 123 - 6);
        due("the minute stays", x.count(0), 2);
        due("X stays", x.count(7), drawn);
        feedText(x, "a");
        due("town(0)", x.town(0), NONE);
        due("town(21)", x.town(21), NONE);
        due("the tape stays", x.count(6), 20);
        for (int i = 0; i < 12; i++) {
            x.feed(0, 0, 0, 0, 0);
        }
        due("town(161)", x.town(161), NONE);
        due("the tape stays", x.count(6), 260);
        due("town(1)", x.town(1), 0);
        due("the tape is empty", x.count(6), 0);
    }

    private static void orders() {
        promise(5);
        Object[][] texts = {
            {"a@8", 1}, {"a@0", 1}, {"a+9999;a-1", 2}, {"#0!", 1}, {"#00?", 1}, {"#1?", 1}, {"~0", 1}, {"~999999", 1},
            {"a", -1001}, {"q@1", -1000}, {"d@1", -7000}, {"d", -7000}, {"a@", -1002}, {"a@9", -1002}, {"a@12", -1003},
            {"a+", -1002}, {"a+12345", -2006}, {"a-x", -1002}, {"a=1", -1001}, {"#", -1001}, {"#x", -1001},
            {"#0", -1002}, {"#0x", -1002}, {"#2!", -7001}, {"#2", -7001}, {"#2x", -7001}, {"#123!", -2003},
            {"~", -1001}, {"~1234567", -2007}, {"~1!", -1002}, {"a@1;", -1004}, {";a@1", -1000}, {"a@1,b@1", -1003},
            {"a @1", -1001}, {"a@1;d+5", -7004}, {"b+5;#0!;#9?;x", -7009}, {"!0", -1000},
        };
        for (Object[] each : texts) {
            due("orders " + each[0], orders(of("a-b1-c2"), (String) each[0]), (Integer) each[1]);
        }
        String twenty = "a@1;".repeat(19) + "a@1";
        due("20 lines", orders(of("a"), twenty), 20);
        due("21 lines", orders(of("a"), twenty + ";a"), -4080);
        due("21 lines, a pipe", orders(of("a"), twenty + ";#"), -4080);
        due("21 lines, the sea", orders(of("a"), twenty + ";~"), -4080);
        due("a 21st of a corner that is not told", orders(of("a"), twenty + ";b@1"), -4080);
        due("a 21st that can't stand", orders(of("a"), twenty + ";q"), -1080);
        due("an end in place of a 21st", orders(of("a"), twenty + ";"), -1080);
        due("without a town", orders(new SorrowPipes(), "a@1"), -7000);
        due("the sea without a town", orders(new SorrowPipes(), "~5"), 1);
        ordersDone();
    }

    private static void ordersDone() {
        SorrowPipes x = of("a-b1-c2");
        due("120 bytes", orders(x, "a+9999;" + "~123456;".repeat(13) + "~12345;#1"), -1120);
        due("nothing is done", x.count(8), 0);
        due("nothing is done to the sea", x.count(4), 9999);
        due("the tape is empty", x.count(6), 0);
        due("orders", orders(x, "a+9999;a+5;a-4;b+7;b-9999;c+12;c@3;#0!;#1!;#0?;~77;~70"), 12);
        due("sorrow at its most, then less", x.cornerIs(0, 1), 9995);
        due("sorrow at its least", x.cornerIs(1, 1), 0);
        due("sorrow", x.cornerIs(2, 1), 12);
        due("turn", x.cornerIs(2, 2), 3);
        due("opened again", x.pipeIs(0, 3), 1);
        due("closed", x.pipeIs(1, 3), 0);
        due("the sea", x.count(4), 70);
        feedText(x, "a@1");
        due("orders(0)", x.orders(0), NONE);
        due("orders(21)", x.orders(21), NONE);
        due("the tape stays", x.count(6), 20);
        for (int i = 0; i < 6; i++) {
            x.feed(0, 0, 0, 0, 0);
        }
        due("orders(121)", x.orders(121), NONE);
        due("the tape stays", x.count(6), 140);
        due("orders(3)", x.orders(3), 1);
        due("the tape is empty", x.count(6), 0);
    }

    private static void minutes() {
        promise(6);
        SorrowPipes x = of("a=10;b=0;a-b4", "a+100;b@2");
        law(x, "r3(1=1);o5(1=1)");
        // a 103, b 3; a gives 4 (less than half of 110); b has 7 and gives 7 of 10
        due("minutes(1)", x.minutes(1), 7);
        due("a", x.cornerIs(0, 1), 99);
        due("b", x.cornerIs(1, 1), 0);
        due("wept", x.cornerIs(1, 3), 7);
        due("the sea", x.count(4), 9993);
        due("the minute", x.count(0), 1);
        due("X: two draws for rises, one for a turned key", x.count(7), nextX(nextX(nextX(1))));
        due("minutes(2)", x.minutes(2), 14);
        due("wept", x.count(9), 21);
        for (int bad : new int[] {0, -1, 101, Integer.MAX_VALUE, Integer.MIN_VALUE}) {
            due("minutes(" + bad + ")", x.minutes(bad), NONE);
        }
        due("the minute", x.count(0), 3);
        due("minutes(100)", x.minutes(100) > 0, true);
        due("the minute", x.count(0), 103);
        pipesOneByOne();
        frozen();
        drawsOfTurnedKeys();
    }

    private static void pipesOneByOne() {
        SorrowPipes x = of("a-b9-c9;c-d9", "a+40");
        law(x, "r0(1=1)");
        x.minutes(1);
        // 40 0 0 0: a gives 9 to b, b gives 4 of 9 to c, c gives 2 of 4 to d
        int[] wants = {31, 5, 2, 2};
        for (int c = 0; c < 4; c++) {
            due("pipes by numbers, corner " + c, x.cornerIs(c, 1), wants[c]);
        }
        SorrowPipes y = of("a=50;a-b9;c-b9", "a+3;b+20");
        law(y, "r0(1=1)");
        y.minutes(1);
        // a is higher by 33 but has 3; then b has 23 and gives c 9
        due("no more than its sorrow", y.cornerIs(0, 1), 0);
        due("to the lower one", y.cornerIs(1, 1), 14);
        due("from the second as told to the first", y.cornerIs(2, 1), 9);
        SorrowPipes z = of("a=99;a-b99", "a+9999;b+9990");
        law(z, "r0(1=1)");
        z.minutes(1);
        due("no more than is missing", z.cornerIs(1, 1), 9999);
        due("the rest stays", z.cornerIs(0, 1), 9990);
        SorrowPipes closed = of("a-b9", "a+40;#0!");
        law(closed, "r0(1=1)");
        closed.minutes(1);
        due("a closed pipe", closed.cornerIs(1, 1), 0);
        SorrowPipes behind = of("a-b9;c=30;c-d9;e=30;f-e9", "a+40;c+10;e+4;#0!");
        law(behind, "r0(1=1)");
        behind.minutes(1);
        due("a pipe behind a closed one", behind.cornerIs(3, 1), 9);
        due("from the height told second", behind.cornerIs(5, 1), 4);
        SorrowPipes like = of("a=20;a-b9", "a+5;b+24");
        law(like, "r0(1=1)");
        like.minutes(3);
        due("half of one, rounded down", like.cornerIs(0, 1), 5);
    }

    private static void frozen() {
        SorrowPipes x = of("a;b", "a@1;b@1;a+50;b+50");
        law(x, "r0(1=1);x(c=1);o9(1=1)");
        due("b is frozen", x.minutes(1), 9);
        due("b", x.cornerIs(1, 1), 50);
        law(x, "x(c=0);r0(1=1);o9(1=1)");
        due("an x ahead of all", x.tried(1, 0), 9);
        due("an x ahead of all: a", x.tried(1, 10), 41);
        law(x, "x(1=2);r0(1=1);o9(1=1);x(c=0)");
        due("any x will do", x.minutes(1), 9);
        due("a", x.cornerIs(0, 1), 41);
        law(x, "x(1/0=0);r0(1=1)");
        due("a refused x does not hold", x.minutes(1), 2);
        law(x, "r0(1=1);o0(1=1)");
        due("o of 0", x.minutes(1), 0);
        law(x, "r0(1=1);o500(1=1)");
        due("o of 99 at most, no more than the sorrow", x.minutes(1), 40 + 40);
    }

    private static void drawsOfTurnedKeys() {
        SorrowPipes x = of("a;b;c", "a@1;c@8;~0");
        x.seed(5);
        x.minutes(1);
        int due = 5;
        for (int i = 0; i < 5; i++) {
            due = nextX(due);
        }
        due("three rises, two keys without sorrow", x.count(7), due);
        SorrowPipes y = of("a", "a@1;a+9999");
        law(y, "r0(1=1);ow(1=1)");
        y.seed(77);
        due("o with another draw than r", y.minutes(1), nextX(nextX(77)) % 10);
        law(y, "r0(1=1);x(w<99);ow(1=1)");
        due("frozen", y.minutes(1), 0);
        int seed = 100;
        y.seed(seed);
        int second = nextX(nextX(seed)) % 10;
        law(y, "r0(1=1);x(!w=" + second + ");ow(1=1)");
        due("x and o with one draw", y.minutes(1), second);
    }

    private static void minutesAtTheirBounds() {
        promise(6);
        SorrowPipes x = of("a", "a@1;~5");
        law(x, "r3(1=1);o0(1=1)");
        x.minutes(2);
        due("no more than the sea has", x.cornerIs(0, 1), 5);
        due("the sea", x.count(4), 0);
        orders(x, "a+9999;a-2;~50");
        x.minutes(1);
        due("no more than is missing to 9999", x.cornerIs(0, 1), 9999);
        due("the sea", x.count(4), 48);
        for (int i = 0; i < 99; i++) {
            x.minutes(100);
        }
        due("the minute", x.count(0), 9903);
        law(x, "r0(1=1);o1(1=1)");
        due("as many as can", x.minutes(100), 96);
        due("the minute", x.count(0), 9999);
        int drawn = x.count(7);
        due("then none goes by", x.minutes(1), 0);
        due("nobody draws", x.count(7), drawn);
        due("tried then", x.tried(5, 0), 0);
        due("tried then: sorrow", x.tried(5, 10), 9999 - 96);
        due("dry then", x.dry(0, 100), -2);
        wept999999();
    }

    private static void wept999999() {
        SorrowPipes x = of("a;b", "a@8;b@1");
        law(x, "r0(1=1);o99(1=1)");
        int all = 0;
        for (int i = 0; i < 110; i++) {
            orders(x, "a+9999");
            all += x.minutes(13);
        }
        due("what came out", all, 110 * 9999);
        due("wept at its most", x.cornerIs(0, 3), 999999);
        due("wept of all", x.count(9), 999999);
        due("sorrow is less all the same", x.cornerIs(0, 1), 0);
        due("tried: wept", x.tried(1, 30), 999999);
    }

    private static void tried() {
        promise(7);
        SorrowPipes x = of("a=10;b=0;a-b4;d", "a+100;b@2");
        law(x, "r3(1=1);o5(1=1)");
        due("what 0", x.tried(1, 0), 7);
        due("what 1", x.tried(1, 1), 9990);
        due("what 2", x.tried(1, 2), 99 + 3);
        due("what 10", x.tried(1, 10), 99);
        due("what 11", x.tried(1, 11), 0);
        due("what 13", x.tried(1, 13), 3);
        due("what 31", x.tried(1, 31), 7);
        due("what 31 in 3", x.tried(3, 31), 21);
        due("what 30", x.tried(1, 30), 0);
        int[] bad = {-1, 3, 9, 12, 14, 25, 26, 29, 32, 45, 46, Integer.MIN_VALUE, Integer.MAX_VALUE};
        for (int what : bad) {
            due("what " + what, x.tried(1, what), NONE);
        }
        due("tried(0, 0)", x.tried(0, 0), NONE);
        due("tried(101, 0)", x.tried(101, 0), NONE);
        due("nothing is changed: the minute", x.count(0), 0);
        due("nothing is changed: X", x.count(7), 1);
        due("nothing is changed: sorrow", x.count(8), 100);
        due("nothing is changed: the sea", x.count(4), 9999);
        due("tried(100, 0)", x.tried(100, 0), x.minutes(100));
    }

    private static void cornerIs() {
        promise(8);
        SorrowPipes x = of("a=5;a-b1-a2;a-d3;c", "a+17;a@4;#2!");
        int[] wants = {5, 17, 4, 0, 2, 2};
        for (int what = 0; what < 6; what++) {
            due("cornerIs(0, " + what + ")", x.cornerIs(0, what), wants[what]);
        }
        law(x, "r0(1=1)");
        x.minutes(1);
        due("wept", x.cornerIs(0, 3), 4);
        due("no open pipes", x.cornerIs(3, 4), 0);
        due("to nobody", x.cornerIs(3, 5), 0);
        due("by the first pipe", of("b-p1").cornerIs(1, 5), 1 << 15);
        due("back by the first pipe", of("b-p1").cornerIs(15, 5), 2);
        due("what 6", x.cornerIs(0, 6), NONE);
        due("what -1", x.cornerIs(0, -1), NONE);
        for (int c : new int[] {-1, 4, 15, 16, Integer.MAX_VALUE, Integer.MIN_VALUE}) {
            due("corner " + c, x.cornerIs(c, 0), NONE);
        }
    }

    private static void pipeIs() {
        promise(9);
        SorrowPipes x = of("c-a7-p99", "#0!");
        int[][] wants = {{2, 0, 7, 0}, {0, 15, 99, 1}};
        for (int p = 0; p < 2; p++) {
            for (int what = 0; what < 4; what++) {
                due("pipeIs(" + p + ", " + what + ")", x.pipeIs(p, what), wants[p][what]);
            }
            due("what 4", x.pipeIs(p, 4), NONE);
            due("what -1", x.pipeIs(p, -1), NONE);
        }
        due("pipe 2", x.pipeIs(2, 0), NONE);
        due("pipe -1", x.pipeIs(-1, 0), NONE);
        due("pipe 24", x.pipeIs(24, 0), NONE);
    }

    private static void dry() {
        promise(10);
        SorrowPipes x = of("a;b", "a+20;a@3");
        law(x, "r0(1=1);o2(1=1)");
        due("20 by 6", x.dry(0, 100), 4);
        due("just so", x.dry(0, 4), 4);
        due("not in these", x.dry(0, 3), -2);
        due("it is", x.dry(1, 1), 0);
        due("dry(0, 0)", x.dry(0, 0), NONE);
        due("dry(0, 101)", x.dry(0, 101), NONE);
        due("not told", x.dry(2, 5), NONE);
        due("corner -1", x.dry(-1, 5), NONE);
        due("nothing is changed", x.cornerIs(0, 1), 20);
        due("nothing is changed: X", x.count(7), 1);
        law(x, "r9(t=1);r0(1=1);o99(1=1)");
        due("dry first, though it rises again", x.dry(0, 5), 1);
    }

    private static void most() {
        promise(11);
        SorrowPipes x = of("a-b5-d4;a-c3-d9;b-c2;e-f7;g");
        due("most(0, 3, 0)", x.most(0, 3, 0), 8);
        due("most(3, 0, 0)", x.most(3, 0, 0), 8);
        due("the fewest on the side", x.most(0, 3, 1), 1);
        due("the fewest on the other one's side", x.most(3, 0, 1), 2 + 4 + 8);
        due("not together", x.most(0, 4, 0), 0);
        due("not together: all of the first", x.most(0, 4, 1), 15);
        due("one alone", x.most(6, 0, 1), 64);
        orders(x, "#0!");
        due("closed pipes do not count", x.most(0, 3, 0), 3);
        due("closed pipes: the side", x.most(0, 3, 1), 1);
        due("the same", x.most(0, 0, 0), NONE);
        due("not told", x.most(0, 9, 0), NONE);
        due("what 2", x.most(0, 3, 2), NONE);
        due("what -1", x.most(0, 3, -1), NONE);
        due("corner -1", x.most(-1, 3, 0), NONE);
        SorrowPipes back = of("a-b1-c1-d1;a-e1-f1-c1;b-g1-h1-d1");
        due("the shortest way must be given up", back.most(0, 3, 0), 2);
        due("the shortest way must be given up: the side", back.most(0, 3, 1), 1);
        SorrowPipes y = of("a-b3-a4;b-c99");
        due("two pipes together", y.most(0, 2, 0), 7);
        due("two pipes together: the side", y.most(2, 0, 1), 6);
    }

    private static void cut() {
        promise(12);
        SorrowPipes x = of("a-b50-c50-d50;a-b1;a-c99;e");
        due("cut(0, 1)", x.cut(0, 1), 3);
        due("cut(0, 2)", x.cut(0, 2), 2);
        due("cut(0, 3)", x.cut(0, 3), 1);
        due("cut(0, 4)", x.cut(0, 4), 0);
        orders(x, "#4!");
        due("closed", x.cut(0, 1), 2);
        due("the same", x.cut(1, 1), NONE);
        due("not told", x.cut(1, 5), NONE);
        due("corner 16", x.cut(16, 1), NONE);
    }

    private static void widest() {
        promise(13);
        SorrowPipes x = of("a-b5-c9;a-c4;d-e99");
        due("widest(0, 2)", x.widest(0, 2), 5);
        due("widest(2, 0)", x.widest(2, 0), 5);
        due("widest(1, 2)", x.widest(1, 2), 9);
        due("widest(3, 4)", x.widest(3, 4), 99);
        due("no way", x.widest(0, 3), -2);
        orders(x, "#0!");
        due("closed", x.widest(0, 2), 4);
        due("the same", x.widest(0, 0), NONE);
        due("not told", x.widest(0, 5), NONE);
        SorrowPipes y = of("p-o9-n9-m9-l9-k9-j9-i9-h9-g9-f9-e9-d9-c9-b9-a8");
        due("a long way, told backwards", y.widest(0, 15), 8);
        due("a long way", y.widest(15, 1), 9);
    }

    private static void steps() {
        promise(14);
        SorrowPipes x = of("a-b1-c1-d1-e1;a-d1;f");
        due("steps(0, 4)", x.steps(0, 4), 2);
        due("steps(4, 0)", x.steps(4, 0), 2);
        due("the same", x.steps(2, 2), 0);
        due("no way", x.steps(0, 5), -2);
        orders(x, "#4!");
        due("closed", x.steps(0, 4), 4);
        due("not told", x.steps(0, 6), NONE);
        due("not told, the same", x.steps(6, 6), NONE);
        due("corner -1", x.steps(-1, 0), NONE);
        due("15 steps", of("a-b1-c1-d1-e1-f1-g1-h1-i1-j1-k1-l1-m1-n1-o1-p1").steps(0, 15), 15);
    }

    private static void bridges() {
        promise(15);
        SorrowPipes x = of("a-b1-c1-a1;c-d1;d-e1-d1;f-g1");
        due("how many", x.bridges(0), 2);
        due("the lowest", x.bridges(1), 3);
        orders(x, "#0!");
        due("how many, one closed", x.bridges(0), 4);
        due("the lowest, one closed", x.bridges(1), 1);
        due("what 2", x.bridges(2), NONE);
        due("what -1", x.bridges(-1), NONE);
        SorrowPipes none = of("a-b1-a1;c");
        due("none", none.bridges(0), 0);
        due("none: the lowest", none.bridges(1), -2);
        due("the first", of("c-a1-b1-a2").bridges(1), 0);
        due("only the first", of("c-a1-b1-a2").bridges(0), 1);
    }

    private static void brigades() {
        promise(16);
        SorrowPipes x = of("a-b1-c1-d1-e1-f1-g1");
        int[] stepsDue = {3, 2, 1, 1, 1};
        int[] bitsDue = {1 << 3, 1 | 1 << 4, 1 | 1 << 2 | 1 << 5, 1 | 2 | 4 | 1 << 5, 1 | 2 | 4 | 8 | 1 << 5};
        for (int k = 1; k <= 5; k++) {
            due("brigades(" + k + ", 0)", x.brigades(k, 0), stepsDue[k - 1]);
            due("brigades(" + k + ", 1)", x.brigades(k, 1), bitsDue[k - 1]);
        }
        due("k 0", x.brigades(0, 0), NONE);
        due("k 6", x.brigades(6, 0), NONE);
        due("what 2", x.brigades(1, 2), NONE);
        due("what -1", x.brigades(1, -1), NONE);
        orders(x, "#1!;#3!");
        due("two do not do", x.brigades(2, 0), -2);
        due("two do not do: bits", x.brigades(2, 1), -2);
        due("three do", x.brigades(3, 0), 1);
        SorrowPipes few = of("b;d");
        due("all stand on their own", few.brigades(2, 0), 0);
        due("all stand on their own: bits", few.brigades(2, 1), 10);
        due("fewer corners than k", few.brigades(3, 0), -2);
        due("no corners", new SorrowPipes().brigades(5, 1), -2);
    }

    private static void painted() {
        promise(17);
        due("a ring", of("a-b1-c1-a1").painted(1), 3);
        due("there and back", of("a-b1-c1").painted(2), 4);
        due("two pipes between two", of("a-b1-a9").painted(0), 2);
        due("three pipes between two", of("a-b1-a9-b3").painted(0), 4);
        due("no pipe", of("a;b-c1").painted(0), 0);
        due("only those that hang together", of("a-b1-c1-a1;d-e1").painted(3), 2);
        due("a star of 15", of("a-b1;a-c1;a-d1;a-e1;a-f1;a-g1;a-h1;a-i1;a-j1;a-k1;a-l1;a-m1;a-n1;a-o1;a-p1").painted(0), 30);
        // a cube in a cube's place: each of 16 corners has three pipes, and eight pipes meet all corners
        due("a ladder round", of("a-b1-c1-d1-e1-f1-g1-h1-a1;i-j1-k1-l1-m1-n1-o1-p1-i1;"
                + "a-i1;b-j1;c-k1;d-l1;e-m1;f-n1;g-o1;h-p1").painted(15), 32);
        due("the nearest pairs", of("a-b1-c1-d1-e1-a1;a-c1").painted(0), 7);
        SorrowPipes x = of("a-b1-c1-d1-e1-f1-g1");
        due("6 there and back", x.painted(3), 12);
        town(x, "a-b1-c1-a1");
        orders(x, "#1!");
        due("another town, closed", x.painted(0), 4);
        town(x, "a-b1-c1-d1-e1-f1;b-g1;c-h1;d-i1;e-j1");
        due("another town", x.painted(0), 18);
        town(x, "a-b1-c1-d1-e1-f1-a1;a-c1;b-d1");
        due("another town", x.painted(3), 10);
        due("not told", x.painted(6), NONE);
        due("corner -1", x.painted(-1), NONE);
        due("corner 16", x.painted(16), NONE);
    }

    private static void keptOpen() {
        promise(18);
        SorrowPipes x = of("a-b1-c5-a3;d-e9-d8;f");
        due("keptOpen()", x.keptOpen(), 5 + 3 + 9);
        orders(x, "#1!;#3!");
        due("closed", x.keptOpen(), 1 + 3 + 8);
        due("no corners", new SorrowPipes().keptOpen(), 0);
        due("no pipes", of("a;b").keptOpen(), 0);
        due("15 of 99", of("p-o99-n99-m99-l99-k99-j99-i99-h99-g99-f99-e99-d99-c99-b99-a99-p98").keptOpen(), 15 * 99);
    }

    private static void farthest() {
        promise(19);
        SorrowPipes x = of("d-a1-b1-e1;c-f1-g1-h1;i");
        int[] wants = {3, 2, 7};
        for (int what = 0; what < 3; what++) {
            due("farthest(" + what + ")", x.farthest(what), wants[what]);
        }
        orders(x, "#4!");
        int[] then = {3, 3, 4};
        for (int what = 0; what < 3; what++) {
            due("closed: farthest(" + what + ")", x.farthest(what), then[what]);
        }
        due("what 3", x.farthest(3), NONE);
        due("what -1", x.farthest(-1), NONE);
        SorrowPipes alone = of("f;c");
        due("ones alone", alone.farthest(0), 0);
        due("ones alone: the lowest", alone.farthest(1), 2);
        due("ones alone: the lowest", alone.farthest(2), 2);
        due("no corners", new SorrowPipes().farthest(2), -2);
        due("no corners, no such what", new SorrowPipes().farthest(3), NONE);
        due("corners between that are not told", of("a;c-d1").farthest(2), 3);
        due("of like ones the lowest, then the lowest other", of("b-a1;b-d1;b-c1").farthest(2), 2);
    }

    private static void ring() {
        promise(20);
        SorrowPipes x = of("a-b1-c1-d1-a1;a-c1;d-e1;e-f1-e1;g");
        due("ring(0)", x.ring(0), 3);
        due("ring(3)", x.ring(3), 3);
        due("two pipes between two", x.ring(4), 2);
        due("none", x.ring(6), -2);
        orders(x, "#4!;#7!");
        due("closed", x.ring(0), 4);
        due("closed: none", x.ring(4), -2);
        due("beside a ring is not in it", of("a-b1-c1-d1-b1").ring(0), -2);
        due("16 round", of("a-b1-c1-d1-e1-f1-g1-h1-i1-j1-k1-l1-m1-n1-o1-p1-a1").ring(7), 16);
        due("not told", x.ring(7), NONE);
        due("corner -1", x.ring(-1), NONE);
    }

    private static void highest() {
        promise(21);
        SorrowPipes x = of("b=10;c=40;d=50", "c+10;b+39");
        due("of like ones the lowest", x.highest(0), 2);
        due("how high", x.highest(1), 50);
        orders(x, "b+2");
        due("who", x.highest(0), 1);
        due("how high", x.highest(1), 51);
        due("what 2", x.highest(2), NONE);
        due("what -1", x.highest(-1), NONE);
        due("no corners", new SorrowPipes().highest(0), -2);
        due("no corners", new SorrowPipes().highest(1), -2);
        due("all at 0", of("e;f").highest(0), 4);
        due("all at 0", of("e;f").highest(1), 0);
        due("a and p", of("a=5;p=4").highest(0), 0);
        due("p and a", of("a=5;p=6").highest(0), 15);
    }

    private static void longest() {
        promise(22);
        SorrowPipes x = of("c-a1-b1-d1;b-e1;f");
        due("longest(2, 0)", x.longest(2, 0), 3);
        due("of like ones the lowest", x.longest(2, 1), 3);
        due("longest(0, 0)", x.longest(0, 0), 2);
        due("longest(0, 1)", x.longest(0, 1), 3);
        due("without pipes", x.longest(5, 0), 0);
        due("without pipes: itself", x.longest(5, 1), 5);
        orders(x, "#2!");
        due("closed", x.longest(2, 1), 4);
        due("not told", x.longest(6, 0), NONE);
        due("what 2", x.longest(0, 2), NONE);
        due("what -1", x.longest(0, -1), NONE);
        SorrowPipes round = of("a-b1-c1-d1-e1-f1-g1-h1-i1-j1-k1-l1-m1-n1-o1-p1-a1");
        due("16 round", round.longest(4, 0), 15);
        due("16 round: the end", round.longest(4, 1), 3);
    }

    private static int byEighths(int sum, int what, int... bytes) {
        SorrowPipes x = new SorrowPipes();
        feedBytes(x, bytes);
        int answer = x.byEighths(bytes.length, sum, what);
        due("the tape is empty", x.count(6), 0);
        return answer;
    }

    private static void byEighths() {
        promise(23);
        due("1 and 2 to 4", byEighths(4, 0, 1, 2), 3);
        due("the fewest", byEighths(4, 1, 1, 2), 2);
        due("all that can be", byEighths(16320, 0, 255, 255, 255, 255, 255, 255, 255, 255), 1);
        due("all that can be: eighths", byEighths(16320, 1, 255, 255, 255, 255, 255, 255, 255, 255), 64);
        due("nothing of eight", byEighths(0, 0, 0, 0, 0, 0, 0, 0, 0, 0), 43046721);
        due("nothing of eight: eighths", byEighths(0, 1, 0, 0, 0, 0, 0, 0, 0, 0), 0);
        due("none", byEighths(1, 0, 2, 4, 6), 0);
        due("none: eighths", byEighths(1, 1, 2, 4, 6), -2);
        due("one", byEighths(8, 1, 1), 8);
        due("one too much", byEighths(9, 0, 1), 0);
        due("three", byEighths(17, 1, 10, 7, 1), 2);
        due("five of 1 to 2", byEighths(2, 0, 1, 1, 1, 1, 1), 15);
        SorrowPipes x = new SorrowPipes();
        feedBytes(x, 1, 2, 3);
        int[][] bad = {{0, 1, 0}, {9, 1, 0}, {-1, 1, 0}, {1, -1, 0}, {1, 16321, 0}, {1, 1, 2}, {1, 1, -1}};
        for (int[] b : bad) {
            due("byEighths(" + b[0] + ", " + b[1] + ", " + b[2] + ")", x.byEighths(b[0], b[1], b[2]), NONE);
        }
        due("the tape stays", x.count(6), 20);
        due("byEighths(3, 6, 0)", x.byEighths(3, 6, 0), 7);
        due("an empty tape", x.byEighths(1, 0, 0), NONE);
    }

    private static void readings() {
        promise(24);
        int[] bytes = {9, 4, 250, 5, 3, 200, 7, 7, 255, 10};
        int[] wants = {1 << 1 | 1 << 3 | 1 << 15, 3, 5 + 245 + 245};
        for (int what = 0; what < 3; what++) {
            SorrowPipes x = of("b;d;e;f;p");
            feedBytes(x, bytes);
            due("readings(" + what + ")", x.readings(what), wants[what]);
            due("the tape is empty", x.count(6), 0);
        }
        SorrowPipes x = of("a;b");
        due("an empty tape", x.readings(0), NONE);
        feedBytes(x, 1, 1, 0, 255);
        due("what 3", x.readings(3), NONE);
        due("what -1", x.readings(-1), NONE);
        due("the tape stays", x.count(6), 20);
        due("nowhere", x.readings(1), -2);
        feedBytes(x, 1, 1, 0, 255);
        due("nowhere: bits", x.readings(0), 0);
        feedBytes(x, 9, 9, 8, 7);
        due("one more", x.readings(1), 1);
        SorrowPipes none = new SorrowPipes();
        feedBytes(none, 2, 1);
        due("no corner is told", none.readings(0), NONE);
        due("the tape stays", none.count(6), 20);
        SorrowPipes all = of("a;b;c;d;e;f;g;h;i;j;k;l;m;n;o;p");
        feedBytes(all, 2, 1);
        due("20 bytes for 16 corners", all.readings(0), NONE);
        due("the tape stays", all.count(6), 20);
        feedBytes(all, 2, 1);
        due("40 bytes for 16 corners", all.readings(0), 1 | 1 << 10);
    }

    private static void hose() {
        promise(25);
        // fires by rows: 5 1 / 1 9 / 2 2 / 0 9
        int[] bytes = {5, 1, 1, 9, 2, 2, 0, 9};
        // fire 0: brigade 1 by 2; fire 1: 0 by 2; fire 2: both by 6, so 0; fire 3: 0 by 6
        int[] given = {1, 0, 0, 0};
        for (int fire = 0; fire < 4; fire++) {
            SorrowPipes x = new SorrowPipes();
            feedBytes(x, bytes);
            due("hose(4, 2, " + fire + ")", x.hose(4, 2, fire), given[fire]);
            due("the tape is empty", x.count(6), 0);
        }
        SorrowPipes x = new SorrowPipes();
        feedBytes(x, bytes);
        int[][] bad = {{0, 2, 100}, {13, 1, 100}, {4, 0, 100}, {4, 7, 100}, {4, 2, 4}, {4, 2, -1}, {4, 2, 99},
            {4, 2, 101}, {4, 6, 100}, {65536, 65536, 100}};
        for (int[] b : bad) {
            due("hose(" + b[0] + ", " + b[1] + ", " + b[2] + ")", x.hose(b[0], b[1], b[2]), NONE);
        }
        due("the tape stays", x.count(6), 20);
        due("by when the last is out", x.hose(4, 2, 100), 6);
        int[] far = new int[72];
        java.util.Arrays.fill(far, 255);
        feedBytes(x, far);
        due("12 fires, 6 brigades", x.hose(12, 6, 100), 1020);
        feedBytes(x, far);
        due("12 fires, 6 brigades: the last", x.hose(12, 6, 11), 5);
        feedBytes(x, 3, 0, 9);
        due("one brigade", x.hose(3, 1, 100), 24);
        feedBytes(x, 0, 0);
        due("fires at the door", x.hose(1, 2, 100), 0);
        feedBytes(x, 7);
        due("one fire, one brigade", x.hose(1, 1, 0), 0);
        feedBytes(x, far);
        due("7 brigades", x.hose(4, 7, 100), NONE);
        due("13 fires", x.hose(13, 5, 100), NONE);
        due("the tape stays", x.count(6), 80);
    }

    private static void seed() {
        promise(26);
        SorrowPipes x = of("a");
        due("seed(65535)", x.seed(65535), true);
        due("X", x.count(7), 65535);
        due("seed(65536)", x.seed(65536), false);
        due("seed(-1)", x.seed(-1), false);
        due("X stays", x.count(7), 65535);
        x.minutes(1);
        due("the next X", x.count(7), nextX(65535));
        due("seed(0)", x.seed(0), true);
        x.minutes(1);
        due("the next X of 0", x.count(7), 13849);
    }

    private static void keepAndUndo() {
        promise(27);
        SorrowPipes x = of("a=3;a-b1-c2;d", "a+50;c+9;c@2;#1!;~800");
        x.seed(9);
        x.minutes(3);
        int drawn = x.count(7);
        int sea = x.count(4);
        int sorrow = x.count(8);
        int wept = x.cornerIs(2, 3);
        promise(28);
        due("undo() of none kept", x.undo(), false);
        promise(27);
        due("keep()", x.keep(), 3);
        due("keep() changes nothing", x.count(7), drawn);
        promise(28);
        x.minutes(10);
        orders(x, "#1?;#0!;a@8;~5;d+7");
        law(x, "r7(1=1)");
        due("undo()", x.undo(), true);
        due("the minute", x.count(0), 3);
        due("X", x.count(7), drawn);
        due("the sea", x.count(4), sea);
        due("sorrow", x.count(8), sorrow);
        due("wept", x.count(9), wept);
        due("turn", x.cornerIs(0, 2), 0);
        due("turn", x.cornerIs(2, 2), 2);
        due("opened", x.pipeIs(0, 3), 1);
        due("closed", x.pipeIs(1, 3), 0);
        due("the law is not undone", x.count(5), 1);
        undoInAnotherTown(x, sorrow);
        promise(27);
        orders(x, "~1");
        due("keep() again", x.keep(), 3);
        orders(x, "~2");
        x.undo();
        due("as kept last", x.count(4), 1);
    }

    private static void undoInAnotherTown(SorrowPipes x, int sorrow) {
        int ofA = x.cornerIs(0, 1);
        int ofC = x.cornerIs(2, 1);
        town(x, "a=7;a-e1-c2-a3-e4");
        orders(x, "#0!;#2!;#3!;e+5;e@1");
        due("undo() in another town", x.undo(), true);
        due("height is not undone", x.cornerIs(0, 0), 7);
        due("a", x.cornerIs(0, 1), ofA);
        due("c", x.cornerIs(2, 1), ofC);
        due("c's turn", x.cornerIs(2, 2), 2);
        due("not told then", x.cornerIs(4, 1), 0);
        due("not told then: turn", x.cornerIs(4, 2), 0);
        due("not told now", x.cornerIs(3, 1), NONE);
        due("sorrow of those there are", x.count(8), ofA + ofC);
        due("pipe 0 was open", x.pipeIs(0, 3), 1);
        due("pipe 1 was closed", x.pipeIs(1, 3), 0);
        due("a pipe beyond those of then", x.pipeIs(2, 3), 1);
        due("a pipe beyond those of then", x.pipeIs(3, 3), 1);
        due("open ones", x.count(3), 3);
        town(x, "b");
        due("undo() in a small town", x.undo(), true);
        due("open ones of none", x.count(3), 0);
        town(x, "a-b1-c2;d");
        x.undo();
        due("what was kept is whole still", x.count(8), sorrow);
    }

    private static void check() {
        promise(29);
        SorrowPipes x = of("a;b;d", "a@3;d@8");
        int[] right = {3, 0, 255, 8, 255, 255, 255, 255, 255, 255, 255, 255, 255, 255, 255, 255};
        feedBytes(x, right);
        due("check(16)", x.check(16), NONE);
        due("the tape is empty", x.count(6), 0);
        feedBytes(x, 3, 0, 0, 8);
        due("check(4)", x.check(4), 2);
        feedBytes(x, 3, 255);
        due("check(2)", x.check(2), 1);
        feedBytes(x, 4, 255);
        due("the first that is not so", x.check(2), 0);
        feedBytes(x, 3, 0, 0, 8);
        due("no more than n", x.check(2), NONE);
        feedBytes(x, 9);
        due("check(17)", x.check(17), -2);
        due("check(-1)", x.check(-1), -2);
        due("the tape stays", x.count(6), 20);
        due("check(0)", x.check(0), NONE);
        due("the tape is empty", x.count(6), 0);
        due("check(1) of an empty tape", x.check(1), -2);
        due("check(0) of an empty tape", x.check(0), NONE);
    }

    private static void count() {
        promise(30);
        SorrowPipes x = of("a-b1-c1;d-e1;g", "a+5;d+6;d@1;#1!;~700");
        law(x, "r0(1=1);x(1=2)");
        x.seed(3);
        x.feed(0, 0, 0, 0, 0);
        int[] wants = {0, 0x5F, 3, 2, 700, 2, 20, 3, 11, 0, 4};
        for (int what = 0; what < wants.length; what++) {
            due("count(" + what + ")", x.count(what), wants[what]);
        }
        for (int bad : new int[] {-1, 11, Integer.MAX_VALUE, Integer.MIN_VALUE}) {
            due("count(" + bad + ")", x.count(bad), NONE);
        }
        x.minutes(2);
        due("count(0)", x.count(0), 2);
        due("count(9)", x.count(9), 2);
        x.check(0);
        orders(x, "#1?");
        due("count(10)", x.count(10), 3);
    }
}
