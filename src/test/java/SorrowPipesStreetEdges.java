import java.io.IOException;

/** The edges of questions about the town and about bytes on the tape (promises 8, 9, 11 to 25), and of refused calls. */
public final class SorrowPipesStreetEdges extends Dues {
    private static final int[] WILD = {Integer.MIN_VALUE, Integer.MIN_VALUE + 1, -1000, Integer.MAX_VALUE - 1, Integer.MAX_VALUE};
    private static final String LINE = "a-b1-c1-d1-e1-f1-g1-h1-i1-j1-k1-l1-m1-n1-o1-p1";
    private static final String ALONE = "a;b;c;d;e;f;g;h;i;j;k;l;m;n;o;p";

    public static void main(String[] args) throws IOException {
        corners();
        pipes();
        mostEdges();
        cutEdges();
        widestEdges();
        stepsEdges();
        bridgesEdges();
        brigadesEdges();
        paintedEdges();
        keptOpenEdges();
        farthestEdges();
        ringEdges();
        highestEdges();
        longestEdges();
        eighths();
        eighthsRefused();
        readingsEdges();
        readingsRefused();
        hoses();
        hosesRefused();
        questionsChangeNothing();
        onlyOpenPipes();
        fullTown();
        townsOfTheirOwn();
        areInDocument(args);
        end("the edges of streets hold");
    }

    /** Told are a, b, c, d and p; p stands alone, and pipe 3 is closed. */
    private static SorrowPipes rich() {
        SorrowPipes x = of("a=9;a-b7-c3-a5;c-d4;p=99", "a+50;b+5;b@3;#3!;~1234", "r2(c=0);o5(1=1)");
        x.seed(77);
        x.minutes(2);
        feedText(x, "abcdefghijklmnopqrst");
        return x;
    }

    // ---- promises 8 and 9

    private static void corners() {
        says(8, "Of a told CORNER, what 0 HEIGHT, 1 SORROW, 2 TURN, 3 WEPT, 4 OPEN PIPES, 5 CORNERS they go to (bits); "
                + "NONE for others.");
        SorrowPipes x = rich();
        String before = seen(x);
        for (int what = 0; what <= 5; what++) {
            due("e is not told: what " + what, x.cornerIs(4, what), NONE);
            due("corner -1: what " + what, x.cornerIs(-1, what), NONE);
            due("corner 16: what " + what, x.cornerIs(16, what), NONE);
            due("corner 32: what " + what, x.cornerIs(32, what), NONE);
            for (int wild : WILD) {
                due("corner " + wild, x.cornerIs(wild, what), NONE);
            }
        }
        for (int what : new int[] {-1, 6, 7}) {
            due("what " + what, x.cornerIs(0, what), NONE);
        }
        for (int wild : WILD) {
            due("what " + wild, x.cornerIs(0, wild), NONE);
        }
        stays("cornerIs", x, before, 20);
        due("p alone: OPEN PIPES", x.cornerIs(15, 4), 0);
        due("p alone: to nobody", x.cornerIs(15, 5), 0);
        due("d has a closed one alone", x.cornerIs(3, 4), 0);
        due("d goes to nobody", x.cornerIs(3, 5), 0);
        SorrowPipes full = of("a" + "-p1-a1".repeat(12), "a+9999;p@8");
        due("24 OPEN PIPES", full.cornerIs(0, 4), 24);
        due("all go to p", full.cornerIs(0, 5), 1 << 15);
        due("all go to a", full.cornerIs(15, 5), 1);
        due("SORROW at its most", full.cornerIs(0, 1), 9999);
        due("TURN at its most", full.cornerIs(15, 2), 8);
    }

    private static void pipes() {
        says(9, "Of a PIPE (0 on), what 0, 1 CORNERS as told, 2 WIDTH, 3 OPEN (1, 0); NONE: no such ones.");
        SorrowPipes x = rich();
        String before = seen(x);
        due("pipe 0 from", x.pipeIs(0, 0), 0);
        due("pipe 2 from", x.pipeIs(2, 0), 2);
        due("pipe 2 to", x.pipeIs(2, 1), 0);
        due("OPEN", x.pipeIs(2, 3), 1);
        due("CLOSED", x.pipeIs(3, 3), 0);
        for (int what = 0; what <= 3; what++) {
            due("pipe 4 of 4", x.pipeIs(4, what), NONE);
            due("pipe -1", x.pipeIs(-1, what), NONE);
            due("pipe 24", x.pipeIs(24, what), NONE);
            for (int wild : WILD) {
                due("pipe " + wild, x.pipeIs(wild, what), NONE);
            }
        }
        for (int what : new int[] {-1, 4, 5}) {
            due("what " + what, x.pipeIs(0, what), NONE);
        }
        for (int wild : WILD) {
            due("what " + wild, x.pipeIs(0, wild), NONE);
        }
        stays("pipeIs", x, before, 20);
        due("without pipes", of("a;b").pipeIs(0, 0), NONE);
        SorrowPipes full = of("o" + "-p1-o99".repeat(12));
        due("pipe 23 from", full.pipeIs(23, 0), 15);
        due("pipe 23 to", full.pipeIs(23, 1), 14);
        due("pipe 23's WIDTH", full.pipeIs(23, 2), 99);
        due("pipe 22's WIDTH", full.pipeIs(22, 2), 1);
    }

    // ---- promises 11 to 14: two corners

    private static void mostEdges() {
        says(11, "MOST between two told CORNERS (not the same), what 0 how much, 1 the side (bits); NONE: no such ones.");
        SorrowPipes x = rich();
        String before = seen(x);
        int[][] bad = {{0, 0, 0}, {15, 15, 1}, {4, 4, 0}, {0, 4, 0}, {4, 0, 1}, {-1, 0, 0}, {0, -1, 0}, {16, 0, 0}, {0, 16, 1},
            {0, 1, 2}, {0, 1, -1}};
        for (int[] b : bad) {
            due("most(" + b[0] + ", " + b[1] + ", " + b[2] + ")", x.most(b[0], b[1], b[2]), NONE);
        }
        for (int wild : WILD) {
            due("most(" + wild + ", 0, 0)", x.most(wild, 0, 0), NONE);
            due("most(0, " + wild + ", 0)", x.most(0, wild, 0), NONE);
            due("most(0, 1, " + wild + ")", x.most(0, 1, wild), NONE);
        }
        stays("most", x, before, 20);

        says(11, "(Of two that do not hang together: 0, all that hang together with the first one.)");
        due("to p", x.most(0, 15, 0), 0);
        due("to p: the side", x.most(0, 15, 1), 7);
        due("from p: the side", x.most(15, 0, 1), 1 << 15);
        due("by a closed pipe alone", x.most(2, 3, 0), 0);
        due("by a closed pipe alone: the side", x.most(2, 3, 1), 7);

        says(11, "the fewest of these: those it can still come to when as much as can goes");
        SorrowPipes line = of("a-b5-c5-d5-e9");
        due("like pipes in a row", line.most(0, 3, 0), 5);
        due("like pipes in a row: the side", line.most(0, 3, 1), 1);
        due("from the other end", line.most(3, 0, 1), 8 + 16);
        due("a wide one ahead", line.most(4, 0, 1), 8 + 16);

        // the first way by b-c is taken back by the second one, and then c can be come to by b again
        SorrowPipes back = of("a-b1-c1-d1;a-e1-f1-c1;b-g1-h1-d1;a-i1-j1-k1-l1-b1");
        due("a way given up", back.most(0, 3, 0), 2);
        due("a way given up: the side", back.most(0, 3, 1), 0xF37);

        says(11, "how much can come a MINUTE from one CORNER to another one by PIPES, no more than WIDTH by each");
        SorrowPipes full = of("a" + "-p99-a99".repeat(12));
        due("24 pipes of 99", full.most(0, 15, 0), 24 * 99);
        due("24 pipes of 99: the side", full.most(15, 0, 1), 1 << 15);
        due("the narrowest is the first", of("a-b3-c9").most(0, 2, 0), 3);
        due("the narrowest is the last", of("a-b3-c9").most(2, 0, 0), 3);
        due("15 pipes of 1", of(LINE).most(0, 15, 0), 1);
        due("15 pipes of 1: the side", of(LINE).most(15, 0, 1), 1 << 15);
    }

    private static void cutEdges() {
        says(12, "CUT between two told CORNERS (not the same): PIPES; NONE: no such ones.");
        SorrowPipes x = rich();
        String before = seen(x);
        int[][] bad = {{0, 0}, {15, 15}, {4, 4}, {0, 4}, {4, 0}, {-1, 0}, {0, -1}, {16, 0}, {0, 16}};
        for (int[] b : bad) {
            due("cut(" + b[0] + ", " + b[1] + ")", x.cut(b[0], b[1]), NONE);
        }
        for (int wild : WILD) {
            due("cut(" + wild + ", 0)", x.cut(wild, 0), NONE);
            due("cut(0, " + wild + ")", x.cut(0, wild), NONE);
        }
        stays("cut", x, before, 20);

        says(12, "CUT: the fewest PIPES to be CLOSED so that nothing can.");
        due("nothing can", x.cut(0, 15), 0);
        due("by a closed pipe nothing can", x.cut(0, 3), 0);
        due("two ways", x.cut(0, 1), 2);
        due("24 pipes", of("a" + "-p99-a1".repeat(12)).cut(0, 15), 24);
        due("many narrow ones or one wide one", of("a-b1-a1-b1;b-c99").cut(0, 2), 1);
    }

    private static void widestEdges() {
        says(13, "WIDEST between two told CORNERS (not the same): WIDTH; -2: no way; NONE: no such ones.");
        SorrowPipes x = rich();
        String before = seen(x);
        int[][] bad = {{0, 0}, {15, 15}, {4, 4}, {0, 4}, {4, 0}, {-1, 0}, {0, -1}, {16, 0}, {0, 16}};
        for (int[] b : bad) {
            due("widest(" + b[0] + ", " + b[1] + ")", x.widest(b[0], b[1]), NONE);
        }
        for (int wild : WILD) {
            due("widest(" + wild + ", 0)", x.widest(wild, 0), NONE);
            due("widest(0, " + wild + ")", x.widest(0, wild), NONE);
        }
        due("no way to p", x.widest(0, 15), -2);
        due("no way from p", x.widest(15, 0), -2);
        due("no way by a closed pipe", x.widest(2, 3), -2);
        stays("widest", x, before, 20);

        says(13, "WIDEST: the way whose least WIDTH is greatest: that WIDTH.");
        due("1", of("a-b1").widest(0, 1), 1);
        due("99", of("a-b99").widest(1, 0), 99);
        due("of two pipes the wider", of("a-b5-a6").widest(0, 1), 6);
        due("round about by 15", of(LINE.replace("1", "9") + "-a8").widest(0, 15), 9);
        due("round about by 15, told from the far end", of("p-o9-n9-m9-l9-k9-j9-i9-h9-g9-f9-e9-d9-c9-b9-a9").widest(0, 15), 9);
        due("not the narrower way", of("a-b99-c2;a-d3-c3").widest(0, 2), 3);
    }

    private static void stepsEdges() {
        says(14, "STEPS between two told CORNERS (any); -2: no way; NONE: no such ones.");
        SorrowPipes x = rich();
        String before = seen(x);
        due("the same", x.steps(0, 0), 0);
        due("the same, alone", x.steps(15, 15), 0);
        due("no way to p", x.steps(0, 15), -2);
        due("no way by a closed pipe", x.steps(3, 2), -2);
        due("one step", x.steps(0, 2), 1);
        int[][] bad = {{4, 4}, {0, 4}, {4, 0}, {-1, 0}, {0, -1}, {-1, -1}, {16, 0}, {0, 16}, {16, 16}};
        for (int[] b : bad) {
            due("steps(" + b[0] + ", " + b[1] + ")", x.steps(b[0], b[1]), NONE);
        }
        for (int wild : WILD) {
            due("steps(" + wild + ", 0)", x.steps(wild, 0), NONE);
            due("steps(0, " + wild + ")", x.steps(0, wild), NONE);
            due("steps(" + wild + ", " + wild + ")", x.steps(wild, wild), NONE);
        }
        stays("steps", x, before, 20);
        due("15 steps", of(LINE).steps(0, 15), 15);
        due("15 steps back", of(LINE).steps(15, 0), 15);
    }

    // ---- promises 15 to 22: the whole town

    private static void bridgesEdges() {
        says(15, "BRIDGES, what 0 how many, 1 the lowest (-2: none); NONE: no such what.");
        SorrowPipes x = rich();
        String before = seen(x);
        due("none", x.bridges(0), 0);
        due("none: the lowest", x.bridges(1), -2);
        for (int what : new int[] {-1, 2, 3}) {
            due("bridges(" + what + ")", x.bridges(what), NONE);
        }
        for (int wild : WILD) {
            due("bridges(" + wild + ")", x.bridges(wild), NONE);
        }
        stays("bridges", x, before, 20);
        SorrowPipes none = new SorrowPipes();
        due("no corners", none.bridges(0), 0);
        due("no corners: the lowest", none.bridges(1), -2);
        due("no pipes", of(ALONE).bridges(1), -2);
        due("all 15", of(LINE).bridges(0), 15);
        due("all 15: the lowest", of(LINE).bridges(1), 0);
        due("a ring of 16", of(LINE + "-a1").bridges(0), 0);

        says(15, "BRIDGES: PIPES without which two that now hang together would not: how many; the lowest.");
        SorrowPipes last = of("a" + "-b1-a1".repeat(11) + ";b-c1;c-d1");
        due("pipes 22 and 23", last.bridges(0), 2);
        due("the lowest", last.bridges(1), 22);
        orders(last, "#22!");
        due("a closed pipe is none", last.bridges(0), 1);
        due("pipe 23", last.bridges(1), 23);
        due("of two between two none", of("a-b1-a1").bridges(0), 0);
    }

    private static void brigadesEdges() {
        says(16, "BRIGADES, what 0 STEPS, 1 CORNERS (bits); -2: they do not do (fewer CORNERS than k, too); NONE: no such ones.");
        SorrowPipes x = rich();
        String before = seen(x);
        int[][] bad = {{0, 0}, {6, 0}, {-1, 0}, {16, 1}, {1, 2}, {1, -1}, {0, 2}, {6, 1}};
        for (int[] b : bad) {
            due("brigades(" + b[0] + ", " + b[1] + ")", x.brigades(b[0], b[1]), NONE);
        }
        for (int wild : WILD) {
            due("brigades(" + wild + ", 0)", x.brigades(wild, 0), NONE);
            due("brigades(1, " + wild + ")", x.brigades(1, wild), NONE);
        }
        due("three groups: 2", x.brigades(2, 0), -2);
        due("three groups: 2, bits", x.brigades(2, 1), -2);
        due("three groups: 3", x.brigades(3, 0), 1);
        due("three groups: 3, bits", x.brigades(3, 1), 1 | 8 | 1 << 15);
        due("as many as corners", x.brigades(5, 0), 0);
        due("as many as corners: bits", x.brigades(5, 1), 15 | 1 << 15);
        stays("brigades", x, before, 20);
        for (int k = 1; k <= 5; k++) {
            due("no corners, k " + k, new SorrowPipes().brigades(k, 0), -2);
            due("no corners, k " + k + ", bits", new SorrowPipes().brigades(k, 1), -2);
            due("16 alone, k " + k, of(ALONE).brigades(k, 0), -2);
        }
        due("no corners, k 6", new SorrowPipes().brigades(6, 0), NONE);
        due("no corners, what 2", new SorrowPipes().brigades(1, 2), NONE);
        SorrowPipes four = of("a-b1-c1-d1");
        due("4 of 4", four.brigades(4, 0), 0);
        due("5 of 4", four.brigades(5, 0), -2);
        due("5 of 4: bits", four.brigades(5, 1), -2);

        says(16, "k CORNERS (1 to 5) so that the most STEPS from any told CORNER to the nearest of them are fewest: that; "
                + "the least bits");
        SorrowPipes line = of(LINE);
        int[] steps = {8, 4, 3, 2, 2};
        int[] bits = {1 << 7, 1 << 2 | 1 << 11, 1 | 1 << 5 | 1 << 12, 1 | 1 << 3 | 1 << 8 | 1 << 13, 3 | 1 << 3 | 1 << 8 | 1 << 13};
        for (int k = 1; k <= 5; k++) {
            due("16 in a row, k " + k, line.brigades(k, 0), steps[k - 1]);
            due("16 in a row, k " + k + ", bits", line.brigades(k, 1), bits[k - 1]);
        }
        due("p alone", of("p").brigades(1, 1), 1 << 15);
        due("of two like ones the lower", of("a-p1").brigades(1, 1), 1);
        due("five of 16 at their own", of("l;m;n;o;p").brigades(5, 1), 31 << 11);
    }

    private static void paintedEdges() {
        says(17, "PAINTED from a told CORNER: PIPES gone by (no PIPE: 0); NONE: no such CORNER.");
        SorrowPipes x = rich();
        String before = seen(x);
        due("p has no PIPE", x.painted(15), 0);
        due("d has a closed one alone", x.painted(3), 0);
        due("a ring of three", x.painted(1), 3);
        for (int c : new int[] {-1, 4, 14, 16, 17}) {
            due("painted(" + c + ")", x.painted(c), NONE);
        }
        for (int wild : WILD) {
            due("painted(" + wild + ")", x.painted(wild), NONE);
        }
        stays("painted", x, before, 20);
        due("no corners", new SorrowPipes().painted(0), NONE);
        due("24 between two", of("a" + "-p1-a1".repeat(12)).painted(15), 24);
        due("23 between two", of("a-p1" + "-a1-p1".repeat(11)).painted(15), 24);
        due("15 there and back", of(LINE).painted(7), 30);
        due("a ring of 16", of(LINE + "-a1").painted(7), 16);

        says(17, "that goes by each PIPE that hangs together with it at least once");
        due("a far PIPE counts, another group does not", of("a-b1-c1;d-e1-f1-g1").painted(0), 4);
        due("all 16 odd", of("a-b1;a-c1;a-d1;b-e1;b-f1;c-g1;c-h1;d-i1;d-j1;e-k1;e-l1;f-m1;f-n1;g-o1;g-p1").painted(0), 30);
    }

    private static void keptOpenEdges() {
        says(18, "KEPT OPEN: WIDTH in all.");
        SorrowPipes x = rich();
        String before = seen(x);
        due("the widest two of three, none closed", x.keptOpen(), 12);
        stays("keptOpen", x, before, 20);
        due("no corners", new SorrowPipes().keptOpen(), 0);
        due("no pipes", of(ALONE).keptOpen(), 0);
        due("all closed", of("a-b9", "#0!").keptOpen(), 0);
        due("one of 24", of("a" + "-p98-a99".repeat(12)).keptOpen(), 99);
        due("15 of 99", of("a-b99-c99-d99-e99-f99-g99-h99-i99-j99-k99-l99-m99-n99-o99-p99-a99").keptOpen(), 15 * 99);

        says(18, "OPEN PIPES, as few as can be, by which all that hang together still do, of the most WIDTH in all: that WIDTH.");
        due("as few as can be, though more were wider", of("a-b1-c1;a-c1").keptOpen(), 2);
        SorrowPipes two = of("a-b1-a2;c-d3-e4-c5");
        due("two groups", two.keptOpen(), 2 + 9);
        due("the same again", two.keptOpen(), 2 + 9);
        town(two, "b-a3-c4");
        due("another town", two.keptOpen(), 7);
    }

    private static void farthestEdges() {
        says(19, "FARTHEST, what 0 STEPS, 1 the lower CORNER, 2 the other one (only ones alone: 0, the lowest, the lowest; "
                + "no CORNERS: -2); NONE: no such what.");
        SorrowPipes x = rich();
        String before = seen(x);
        for (int what : new int[] {-1, 3, 4}) {
            due("farthest(" + what + ")", x.farthest(what), NONE);
            due("no corners: farthest(" + what + ")", new SorrowPipes().farthest(what), NONE);
        }
        for (int wild : WILD) {
            due("farthest(" + wild + ")", x.farthest(wild), NONE);
        }
        int[] like = {1, 0, 1};
        int[] last = {0, 15, 15};
        int[] alone = {0, 1, 1};
        int[] row = {15, 0, 15};
        for (int what = 0; what <= 2; what++) {
            due("of like ones: farthest(" + what + ")", x.farthest(what), like[what]);
            due("no corners: farthest(" + what + ")", new SorrowPipes().farthest(what), -2);
            due("p alone: farthest(" + what + ")", of("p").farthest(what), last[what]);
            due("ones alone: farthest(" + what + ")", of("p;c;b").farthest(what), alone[what]);
            due("a closed pipe: farthest(" + what + ")", of("p-b1", "#0!").farthest(what), alone[what]);
            due("16 in a row: farthest(" + what + ")", of(LINE).farthest(what), row[what]);
        }
        stays("farthest", x, before, 20);

        says(19, "two CORNERS that hang together, the most STEPS from each other (of like ones the lowest, then the lowest other)");
        SorrowPipes star = of("d-a1;d-b1;d-c1");
        due("the lowest", star.farthest(1), 0);
        due("then the lowest other", star.farthest(2), 1);
        SorrowPipes two = of("o-b1-p1;c-a1-d1");
        due("b is lower than c", two.farthest(1), 2);
        due("o and p are not lower", two.farthest(2), 3);
    }

    private static void ringEdges() {
        says(20, "A RING through a told CORNER: PIPES; -2: there is none; NONE: no such CORNER.");
        SorrowPipes x = rich();
        String before = seen(x);
        due("three", x.ring(0), 3);
        due("beside a ring by a closed pipe", x.ring(3), -2);
        due("alone", x.ring(15), -2);
        for (int c : new int[] {-1, 4, 14, 16}) {
            due("ring(" + c + ")", x.ring(c), NONE);
        }
        for (int wild : WILD) {
            due("ring(" + wild + ")", x.ring(wild), NONE);
        }
        stays("ring", x, before, 20);
        due("no corners", new SorrowPipes().ring(0), NONE);
        due("a ring of 16", of(LINE + "-a1").ring(15), 16);
        due("a row", of(LINE).ring(7), -2);

        says(20, "the fewest PIPES gone from it back to it, none twice (two PIPES between the same two CORNERS make one of 2)");
        due("two pipes", of("a-b1-a1").ring(0), 2);
        due("two pipes, one closed", of("a-b1-a1", "#1!").ring(0), -2);
        due("one pipe there and back is none", of("a-b1").ring(0), -2);
        due("the lesser of two", of("a-b1-c1-a1;a-d1-e1-f1-a1").ring(0), 3);
        due("the lesser of two, told last", of("a-d1-e1-f1-a1;a-b1-c1-a1").ring(0), 3);
        due("the greater where it goes through", of("a-b1-c1-a1;a-d1-e1-f1-a1").ring(4), 4);
        due("by a way to a ring and back", of("a-b1;b-c1-b1").ring(0), -2);
    }

    private static void highestEdges() {
        says(21, "HIGHEST, what 0 who (no CORNERS: -2), 1 how high (no CORNERS: -2); NONE: no such what.");
        SorrowPipes x = rich();
        String before = seen(x);
        for (int what : new int[] {-1, 2, 3}) {
            due("highest(" + what + ")", x.highest(what), NONE);
            due("no corners: highest(" + what + ")", new SorrowPipes().highest(what), NONE);
        }
        for (int wild : WILD) {
            due("highest(" + wild + ")", x.highest(wild), NONE);
        }
        stays("highest", x, before, 20);
        due("no corners: who", new SorrowPipes().highest(0), -2);
        due("no corners: how high", new SorrowPipes().highest(1), -2);

        says(21, "HIGHEST: the CORNER of most HEIGHT and SORROW together (of like ones the lowest)");
        SorrowPipes most = of("a=98;p=99", "a+9999;p+9999");
        due("the most", most.highest(1), 10098);
        due("the most: who", most.highest(0), 15);
        orders(most, "p-1");
        due("like ones", most.highest(0), 0);
        due("like ones: how high", most.highest(1), 10097);
        due("all at 0", of("p;o").highest(0), 14);
        due("all at 0: how high", of("p;o").highest(1), 0);
        due("those who are not told do not count", of("d").highest(0), 3);
    }

    private static void longestEdges() {
        says(22, "THE LONGEST WALK from a told CORNER, what 0 PIPES, 1 the end; NONE: no such ones.");
        SorrowPipes x = rich();
        String before = seen(x);
        int[][] bad = {{-1, 0}, {4, 0}, {16, 1}, {0, -1}, {0, 2}, {4, 2}};
        for (int[] b : bad) {
            due("longest(" + b[0] + ", " + b[1] + ")", x.longest(b[0], b[1]), NONE);
        }
        for (int wild : WILD) {
            due("longest(" + wild + ", 0)", x.longest(wild, 0), NONE);
            due("longest(0, " + wild + ")", x.longest(0, wild), NONE);
        }
        due("a ring of three", x.longest(0, 0), 2);
        due("a ring of three: the lowest end", x.longest(0, 1), 1);
        due("from b", x.longest(1, 1), 0);
        stays("longest", x, before, 20);
        due("no corners", new SorrowPipes().longest(0, 0), NONE);

        says(22, "how many PIPES; the end (of like ones the lowest; without PIPES: 0, itself).");
        due("without PIPES", x.longest(15, 0), 0);
        due("without PIPES: itself", x.longest(15, 1), 15);
        due("a closed one alone", x.longest(3, 0), 0);
        due("a closed one alone: itself", x.longest(3, 1), 3);
        due("16 in a row", of(LINE).longest(0, 0), 15);
        due("16 in a row: the end", of(LINE).longest(0, 1), 15);
        due("from the middle", of(LINE).longest(7, 0), 8);
        due("from the middle: the end", of(LINE).longest(7, 1), 15);
        due("two pipes between two are gone once", of("a-b1-a1").longest(0, 0), 1);
        due("like ends", of("b-a1;b-p1;b-c1").longest(1, 1), 0);
        due("like ends from an end", of("b-a1;b-p1;b-c1").longest(0, 1), 2);
    }

    // ---- promises 23 to 25: bytes on the tape

    private static int ways(int sum, int what, int... bytes) {
        SorrowPipes x = new SorrowPipes();
        feedBytes(x, bytes);
        int answer = x.byEighths(bytes.length, sum, what);
        due("the tape behind byEighths", x.count(6), 0);
        return answer;
    }

    private static void eighths() {
        says(23, "TURNS by the first n bytes of the tape (n 1 to 8; empty then) for a sum (0 to 16320), what 0 ways, "
                + "1 eighths (-2: by none)");
        int[] most = {255, 255, 255, 255, 255, 255, 255, 255};
        due("sum 16320", ways(16320, 0, most), 1);
        due("sum 16320: eighths", ways(16320, 1, most), 64);
        due("sum 16319", ways(16319, 0, most), 0);
        due("sum 16319: eighths", ways(16319, 1, most), -2);
        due("sum 16065", ways(16065, 0, most), 8);
        due("sum 16065: eighths", ways(16065, 1, most), 63);
        due("sum 8160 by half of them", ways(8160, 0, 255, 255, 255, 255, 0, 0, 0, 0), 6561);
        due("sum 8161 by half of them", ways(8161, 0, 255, 255, 255, 255, 0, 0, 0, 0), 0);
        due("sum 8160 by the other half", ways(8160, 1, 0, 0, 0, 0, 255, 255, 255, 255), 32);
        due("sum 16320 by half of them", ways(16320, 1, 0, 0, 0, 0, 255, 255, 255, 255), -2);
        due("sum 0 of 255", ways(0, 0, most), 1);
        due("sum 0 of 255: eighths", ways(0, 1, most), 0);
        int[] nothing = new int[8];
        due("nothing by eight", ways(0, 0, nothing), 43046721);
        due("nothing by eight: eighths", ways(0, 1, nothing), 0);
        due("nothing by eight to 1", ways(1, 0, nothing), 0);
        due("nothing by eight to 1: eighths", ways(1, 1, nothing), -2);
        due("one: 8 eighths", ways(8, 0, 1), 1);
        due("one: 8 eighths", ways(8, 1, 1), 8);
        due("one: 9 are too many", ways(9, 0, 1), 0);
        due("one: 9 are too many", ways(9, 1, 1), -2);
        due("one of 0", ways(0, 0, 0), 9);
        due("one of 0: eighths", ways(0, 1, 0), 0);
        due("one of 255", ways(2040, 1, 255), 8);
        due("a 0 among them", ways(255, 0, 255, 0), 9);
        due("a 0 among them: eighths", ways(255, 1, 0, 255), 1);

        says(23, "the fewest eighths in all by which they do");
        due("the great ones", ways(20, 1, 1, 10, 5), 2);
        due("not the greatest first", ways(16, 1, 1, 8, 9), 2);
        due("just by all", ways(36, 1, 1, 1, 1, 1, 1, 1, 1, 1), 36);
        SorrowPipes x = new SorrowPipes();
        feedBytes(x, 3, 5, 7);
        due("the first n bytes alone", x.byEighths(2, 15, 0), 2);
        due("the rest is gone, too", x.count(6), 0);
        feedBytes(x, 4, 4);
        due("what was reckoned ahead counts no more", x.byEighths(2, 15, 0), 0);
        feedBytes(x, 15, 15);
        due("what was reckoned ahead counts no more", x.byEighths(2, 15, 0), 2);
    }

    private static void eighthsRefused() {
        says(23, "NONE: no such ones, it has not so many (the tape stays).");
        SorrowPipes x = rich();
        String before = seen(x);
        int[][] bad = {{0, 1, 0}, {9, 1, 0}, {-1, 1, 0}, {1, -1, 0}, {1, 16321, 0}, {1, 1, 2}, {1, 1, -1}, {20, 0, 0}};
        for (int[] b : bad) {
            due("byEighths(" + b[0] + ", " + b[1] + ", " + b[2] + ")", x.byEighths(b[0], b[1], b[2]), NONE);
        }
        for (int wild : WILD) {
            due("byEighths(" + wild + ", 1, 0)", x.byEighths(wild, 1, 0), NONE);
            due("byEighths(1, " + wild + ", 0)", x.byEighths(1, wild, 0), NONE);
            due("byEighths(1, 1, " + wild + ")", x.byEighths(1, 1, wild), NONE);
        }
        stays("byEighths", x, before, 20);
        due("the bytes stay", x.byEighths(1, 97, 0), 1);
        stays("byEighths", x, before, 0);
        due("an empty tape", x.byEighths(1, 0, 0), NONE);
    }

    private static void readingsEdges() {
        says(24, "READINGS by the first two bytes of each told CORNER on the tape (empty then), what 0 which (bits), "
                + "1 where most (-2: nowhere), 2 how much");
        int[] all = new int[32];
        for (int c = 0; c < 16; c++) {
            all[2 * c] = 255;
        }
        int[] wants = {65535, 0, 16 * 255};
        int[] nowhere = {0, -2, 0};
        int[] last = {1 << 15, 15, 1};
        for (int what = 0; what <= 2; what++) {
            SorrowPipes x = of(ALONE);
            feedBytes(x, all);
            due("all lose all: readings(" + what + ")", x.readings(what), wants[what]);
            due("the tape", x.count(6), 0);
            feedBytes(x, new int[32]);
            due("nothing: readings(" + what + ")", x.readings(what), nowhere[what]);
            int[] more = new int[32];
            more[1] = 255;
            more[30] = 1;
            feedBytes(x, more);
            due("p alone, by 1: readings(" + what + ")", x.readings(what), last[what]);
            SorrowPipes y = of("c;p");
            feedBytes(y, 0, 255, 9, 9, 255, 0);
            due("more went out, like much: readings(" + what + ")", y.readings(what), nowhere[what]);
        }
        SorrowPipes one = of("p");
        feedBytes(one, 2, 1);
        due("one CORNER", one.readings(0), 1 << 15);

        says(24, "where that is most more (of like ones the lowest)");
        SorrowPipes x = of("b;d;p");
        feedBytes(x, 5, 4, 255, 250, 7, 2);
        due("like ones", x.readings(1), 3);

        says(24, "those where more came in than went out (bits)");
        feedBytes(x, 5, 4, 255, 255, 7, 8);
        due("by one more, by none, by one less", x.readings(0), 2);

        says(24, "what is lost so at all of them together");
        feedBytes(x, 5, 4, 0, 255, 7, 2);
        due("what came out more is not taken off", x.readings(2), 6);
    }

    private static void readingsRefused() {
        says(24, "NONE: no such what, it has not so many (the tape stays), no CORNER is told.");
        SorrowPipes x = rich();
        String before = seen(x);
        for (int what : new int[] {-1, 3, 4}) {
            due("readings(" + what + ")", x.readings(what), NONE);
        }
        for (int wild : WILD) {
            due("readings(" + wild + ")", x.readings(wild), NONE);
        }
        stays("readings of no such what", x, before, 20);
        due("ten bytes of twenty", x.readings(0), 0);
        stays("readings", x, before, 0);
        due("an empty tape", x.readings(0), NONE);
        SorrowPipes ten = of("a;b;c;d;e;f;g;h;i;j");
        feedBytes(ten, 1);
        due("20 bytes for 10", ten.readings(0), 1);
        SorrowPipes eleven = of("a;b;c;d;e;f;g;h;i;j;k");
        feedBytes(eleven, 1);
        due("20 bytes for 11", eleven.readings(0), NONE);
        due("the tape", eleven.count(6), 20);
        feedBytes(eleven, 0, 1, 1);
        due("40 bytes for 11, those ahead stay", eleven.readings(0), 1);
        SorrowPipes none = new SorrowPipes();
        due("no corner, an empty tape", none.readings(0), NONE);
        feedBytes(none, 2, 1);
        for (int what = 0; what <= 2; what++) {
            due("no corner", none.readings(what), NONE);
        }
        due("the tape", none.count(6), 20);
    }

    private static int hosed(int n, int m, int what, int... bytes) {
        SorrowPipes x = new SorrowPipes();
        feedBytes(x, bytes);
        int answer = x.hose(n, m, what);
        due("the tape behind hose", x.count(6), 0);
        return answer;
    }

    private static int[] like(int size, int value) {
        int[] bytes = new int[size];
        java.util.Arrays.fill(bytes, value);
        return bytes;
    }

    private static void hoses() {
        says(25, "A HOSE of n fires (1 to 12), m brigades (1 to 6) by the first n m bytes of the tape (row by row of fires; "
                + "empty then), what 100 by when the last is out, else the brigade of fire what (0 to n - 1)");
        due("1 by 1", hosed(1, 1, 100, 255), 510);
        due("1 by 1: who", hosed(1, 1, 0, 255), 0);
        due("12 by 1", hosed(12, 1, 100, like(12, 255)), 12 * 510);
        due("12 by 1: who", hosed(12, 1, 11, like(12, 255)), 0);
        due("12 by 6", hosed(12, 6, 100, like(72, 255)), 1020);
        for (int fire = 0; fire < 12; fire++) {
            due("12 by 6: fire " + fire, hosed(12, 6, fire, like(72, 255)), fire % 6);
            due("12 by 6 at the door: fire " + fire, hosed(12, 6, fire, new int[72]), 0);
        }
        due("1 by 6", hosed(1, 6, 0, 9, 8, 7, 6, 5, 4), 5);
        due("1 by 6: by when", hosed(1, 6, 100, 9, 8, 7, 6, 5, 4), 8);
        due("at the door", hosed(2, 3, 100, 0, 0, 0, 0, 0, 0), 0);
        due("row by row of fires", hosed(2, 3, 1, 1, 2, 3, 9, 9, 1), 2);
        due("row by row of fires: by when", hosed(2, 3, 100, 1, 2, 3, 9, 9, 1), 2);

        says(25, "one by one each fire is given to the brigade that has it out first (behind all it was given ahead, "
                + "in twice as many minutes as PIPES; of like ones the lowest)");
        due("like ones: the lowest", hosed(1, 2, 0, 3, 3), 0);
        due("behind what it was given", hosed(2, 2, 1, 1, 5, 4, 5), 0);
        due("behind what it was given: like ones", hosed(2, 2, 1, 1, 5, 4, 5) + hosed(2, 2, 1, 2, 5, 3, 5), 0);
        due("the other one is sooner", hosed(2, 2, 1, 2, 5, 4, 5), 1);
        due("the last out is not the last given", hosed(2, 2, 100, 9, 9, 1, 1), 18);

        says(25, "by when the last one is out; which brigade has a fire");
        SorrowPipes x = new SorrowPipes();
        feedBytes(x, 1, 2, 3, 4, 5, 6);
        due("the first bytes alone", x.hose(1, 1, 100), 2);
        due("the rest is gone, too", x.count(6), 0);
    }

    private static void hosesRefused() {
        says(25, "NONE: no such ones, it has not so many (the tape stays).");
        SorrowPipes x = rich();
        String before = seen(x);
        int[][] bad = {{0, 1, 100}, {13, 1, 100}, {-1, 1, 100}, {-1, -1, 100}, {1, 0, 100}, {1, 7, 100}, {1, -1, 100}, {4, 2, 4},
            {4, 2, -1}, {4, 2, 99}, {4, 2, 101}, {4, 6, 100}, {7, 3, 0}, {11, 2, 100}, {12, 6, 100}, {1, 1, 1}, {4, 2, 5}};
        for (int[] b : bad) {
            due("hose(" + b[0] + ", " + b[1] + ", " + b[2] + ")", x.hose(b[0], b[1], b[2]), NONE);
        }
        for (int wild : WILD) {
            due("hose(" + wild + ", 1, 100)", x.hose(wild, 1, 100), NONE);
            due("hose(1, " + wild + ", 100)", x.hose(1, wild, 100), NONE);
            due("hose(" + wild + ", " + wild + ", 100)", x.hose(wild, wild, 100), NONE);
            due("hose(1, 1, " + wild + ")", x.hose(1, 1, wild), NONE);
        }
        stays("hose", x, before, 20);
        due("the bytes stay", x.hose(1, 2, 100), 194);
        stays("hose", x, before, 0);
        due("an empty tape", x.hose(1, 1, 100), NONE);
        feedText(x, "a");
        due("20 of 20", x.hose(10, 2, 0), 1);
        feedBytes(x, like(260, 1));
        due("7 brigades, enough bytes", x.hose(4, 7, 100), NONE);
        due("13 fires, enough bytes", x.hose(13, 6, 100), NONE);
        due("the tape", x.count(6), 260);
        due("12 by 6 of 260", x.hose(12, 6, 100), 4);
    }

    // ---- all

    private static void questionsChangeNothing() {
        says(30, "A call that is refused (NONE, false) changes nothing but the tape, where it is told.");
        SorrowPipes x = rich();
        String before = seen(x);
        for (int c = -1; c <= 16; c += c == 4 ? 10 : 1) {
            x.painted(c);
            x.ring(c);
            for (int d = -1; d <= 2; d++) {
                x.most(c, d, 1);
                x.cut(c, d);
                x.widest(c, d);
                x.steps(c, d);
                x.longest(c, d);
                x.cornerIs(c, d);
                x.pipeIs(c, d);
            }
        }
        stays("questions", x, before, 20);
        for (int k = -1; k <= 6; k++) {
            for (int what = -1; what <= 2; what++) {
                x.brigades(k, what);
            }
            x.bridges(k);
            x.farthest(k);
            x.highest(k);
        }
        x.keptOpen();
        stays("questions of all", x, before, 20);
    }

    private static void onlyOpenPipes() {
        says(11, "Below only OPEN PIPES count, both ways.");
        SorrowPipes x = of("a-b5-c6-d7-a8;b-d9");
        orders(x, "#0!;#4!");
        due("most", x.most(0, 1, 0), 6);
        due("cut", x.cut(0, 1), 1);
        due("widest", x.widest(0, 1), 6);
        due("steps", x.steps(0, 1), 3);
        due("bridges", x.bridges(0), 3);
        due("brigades", x.brigades(1, 0), 2);
        due("painted", x.painted(0), 6);
        due("keptOpen", x.keptOpen(), 21);
        due("farthest", x.farthest(0), 3);
        due("ring", x.ring(0), -2);
        due("longest", x.longest(0, 0), 3);
        due("groups", x.count(10), 1);
        orders(x, "#0?;#1!;#2!");
        due("most", x.most(0, 3, 0), 8);
        due("against the way it was told", x.steps(1, 3), 2);
        due("groups", x.count(10), 2);
    }

    /** Two rings of eight, each corner joined to the one across: all corners, all pipes, and all corners are alike. */
    private static void fullTown() {
        says(4, "PIPES (24 at most)");
        SorrowPipes x = of("a-b1-c1-d1-e1-f1-g1-h1-a1;i-j1-k1-l1-m1-n1-o1-p1-i1;a-i1;b-j1;c-k1;d-l1;e-m1;f-n1;g-o1;h-p1");
        due("PIPES", x.count(2), 24);
        due("OPEN ones", x.count(3), 24);
        due("groups", x.count(10), 1);
        due("bridges", x.bridges(0), 0);
        due("brigades", x.brigades(1, 0), 5);
        due("brigades: bits", x.brigades(1, 1), 1);
        due("keptOpen", x.keptOpen(), 15);
        int[] far = {5, 0, 12};
        for (int what = 0; what <= 2; what++) {
            due("farthest(" + what + ")", x.farthest(what), far[what]);
        }
        for (int c = 0; c < 16; c++) {
            due("OPEN PIPES of " + c, x.cornerIs(c, 4), 3);
            due("painted(" + c + ")", x.painted(c), 32);
            due("ring(" + c + ")", x.ring(c), 4);
            due("longest(" + c + ", 0)", x.longest(c, 0), 15);
            due("most(" + c + ", " + (15 - c) + ", 0)", x.most(c, 15 - c, 0), 3);
            due("most(" + c + ", " + (15 - c) + ", 1)", x.most(c, 15 - c, 1), 1 << c);
            due("cut(" + c + ", " + (15 - c) + ")", x.cut(c, 15 - c), 3);
            due("widest(" + c + ", " + (15 - c) + ")", x.widest(c, 15 - c), 1);
        }
        due("longest(0, 1)", x.longest(0, 1), 1);
        law(x, "r5(c=7);rm+n(c=15);r0(1=1)");
        due("n and m of 24 pipes: 5 rise at h, 5 and 3 at p", x.tried(1, 1), 9999 - 13);
        orders(x, "#23!");
        due("the last PIPE closed", x.cornerIs(15, 4), 2);
        due("the last PIPE closed: its other end", x.cornerIs(7, 5), 1 | 1 << 6);
        due("OPEN ones", x.count(3), 23);
    }

    private static void townsOfTheirOwn() {
        says(1, "All memory is the town's own.");
        SorrowPipes x = rich();
        String before = seen(x);
        SorrowPipes other = of("a-p9", "a+9;p@8;#0!;~7", "x(1=1)");
        other.seed(5);
        other.keep();
        other.minutes(100);
        other.undo();
        feedBytes(other, like(240, 7));
        stays("another town's calls", x, before, 20);
        due("what the other one kept is not this one's", x.undo(), false);

        says(1, "An object is used for at most 512 calls after it has been made");
        SorrowPipes old = new SorrowPipes();
        for (int call = 1; call <= 511; call++) {
            old.minutes(1);
        }
        due("the 512th call", old.count(0), 511);
    }
}
