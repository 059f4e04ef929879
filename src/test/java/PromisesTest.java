/** Each promise by ordinary inputs, the edges that the document names, and wrong inputs; most numbers are worked out by hand. */
public final class PromisesTest {
    private static final int NONE = -1;
    private static final long NO_SLICE = -10000000000000L;
    private static final long NO_THRUST = -10000000000000000L;
    private static int promise;
    private static int checks;
    private static int wrong;

    private static void due(String call, long got, long want) {
        checks++;
        if (got != want) {
            wrong++;
            System.out.println("promise " + promise + ": " + call + " answered " + got + ", due is " + want);
        }
    }

    private static void due(String call, boolean got, boolean want) {
        due(call, got ? 1 : 0, want ? 1 : 0);
    }

    /** Puts a text behind what is on the tape, without what pads it. */
    private static void put(SlopeJudge x, String t) {
        int was = x.look(10);
        for (int at = 0; at < t.length(); at += 20) {
            int[] v = new int[5];
            for (int i = 0; i < 20; i++) {
                v[i / 4] = v[i / 4] << 8 | (at + i < t.length() ? t.charAt(at + i) : 0);
            }
            x.feed(v[0], v[1], v[2], v[3], v[4]);
        }
        x.end(was + t.length());
    }

    private static SlopeJudge told(String t) {
        SlopeJudge x = new SlopeJudge();
        put(x, t);
        if (x.text() == NONE) {
            wrong++;
            System.out.println("promise " + promise + ": can't be told: " + t + ": " + x.fault(0) + " at " + x.fault(1));
        }
        return x;
    }

    private static void faulty(String t, int fault, int place) {
        SlopeJudge x = new SlopeJudge();
        put(x, t);
        due("text() of \"" + t + "\"", x.text(), NONE);
        due("fault(0) of \"" + t + "\"", x.fault(0), fault);
        due("fault(1) of \"" + t + "\"", x.fault(1), place);
        due("look(9) behind \"" + t + "\"", x.look(9), 0);
        due("look(0) behind \"" + t + "\"", x.look(0), 20);
    }

    /** Four SLICES with all that counts: BASES 20 12 10 12 20, B 3. */
    private static SlopeJudge layered() {
        SlopeJudge x = told("columns 4 3; top 1 15*5; top 2 18*5; top 3 11*5; load 0 7 0*3; water 0 30 14 0 0;"
                + "soil 0 10 10 300; soil 1 20 5 200; soil 2 30 40 500; soil 3 5 90 900; quake 100;");
        shaped(x, true, 20, 12, 10, 12, 20);
        return x;
    }

    private static void shaped(SlopeJudge x, boolean left, int... heights) {
        x.point(NONE, 0);
        for (int c = 0; c < heights.length; c++) {
            x.point(c, heights[c]);
        }
        due("points", x.points(left), heights.length - 1);
    }

    private static void newObject() {
        promise = 1;
        SlopeJudge x = new SlopeJudge();
        int[] looks = {20, 4, 0, 0, 0, NONE, NONE, NONE, 0, 0, 0, 20, 420, 0};
        for (int what = 0; what < looks.length; what++) {
            due("look(" + what + ")", x.look(what), looks[what]);
        }
        for (int c = 0; c <= 20; c++) {
            int[] column = {20, 0, 0, 0, 20, 0, 0, 0, NONE};
            for (int what = 0; what < column.length; what++) {
                due("column(" + c + ", " + what + ")", x.column(c, what), column[what]);
            }
        }
        for (int l = 0; l < 4; l++) {
            due("layer(l, 0)", x.layer(l, 0), 20);
            due("layer(l, 1)", x.layer(l, 1), 10);
            due("layer(l, 2)", x.layer(l, 2), 300);
        }
        due("fault(0)", x.fault(0), 0);
        due("fault(1)", x.fault(1), NONE);
        due("sign(0)", x.sign(0), NONE);
        due("NONE", SlopeJudge.NONE, -1);
    }

    private static void size() {
        promise = 2;
        SlopeJudge x = new SlopeJudge();
        int[][] cannot = {{3, 4}, {41, 4}, {4, 0}, {4, 11}, {-1, 4}, {Integer.MIN_VALUE, 1}, {4, Integer.MAX_VALUE}};
        for (int[] c : cannot) {
            due("size that can't be", x.size(c[0], c[1]), false);
        }
        due("look(9)", x.look(9), 0);
        x.tell(0, 0, 5);
        x.tell(0, 1, 5);
        x.tell(0, 2, 5);
        x.tell(0, 3, 5);
        x.soil(0, 1, 1, 1);
        x.quake(7);
        x.anchor(0, 0, 0, 1);
        x.circle(40, 25, 10, true);
        due("size(40, 10)", x.size(40, 10), true);
        due("n", x.look(0), 40);
        due("B", x.look(1), 10);
        due("quake", x.look(2), 0);
        due("anchors", x.look(3), 0);
        due("slices", x.look(4), 0);
        due("rock", x.column(0, 1), 0);
        due("water", x.column(0, 2), 0);
        due("load", x.column(0, 3), 0);
        due("top", x.column(0, 5), 0);
        due("ground", x.column(40, 0), 20);
        due("weight", x.layer(0, 0), 20);
        due("size(4, 1)", x.size(4, 1), true);
        due("column(5, 0)", x.column(5, 0), -10);
        due("look(12)", x.look(12), 100);
    }

    private static void tell() {
        promise = 3;
        SlopeJudge x = new SlopeJudge();
        int[][] cannot = {{-1, 1, 0}, {21, 1, 0}, {0, -1, 0}, {0, 6, 0}, {0, 0, -1}, {0, 0, 21}, {0, 1, 101}, {0, 1, -1},
            {0, 2, 501}, {0, 2, -1}, {0, 3, 101}, {0, 4, 101}, {0, 5, 101}, {0, 5, -1}};
        for (int[] c : cannot) {
            due("tell(" + c[0] + ", " + c[1] + ", " + c[2] + ")", x.tell(c[0], c[1], c[2]), false);
        }
        due("circle", x.circle(40, 25, 10, true), 6);
        due("tell water", x.tell(20, 1, 100), true);
        due("water counts as ground", x.column(20, 2), 20);
        due("tell load", x.tell(0, 2, 500), true);
        due("load", x.column(0, 3), 500);
        due("tell tops", x.tell(3, 3, 100) && x.tell(3, 4, 9) && x.tell(3, 5, 15), true);
        due("top 1 counts as ground", x.column(3, 5), 20);
        due("top 2", x.column(3, 6), 9);
        due("top 3 counts as top 2", x.column(3, 7), 9);
        due("the slip stays", x.look(4), 6);
        due("a refused rock", x.tell(0, 0, 21), false);
        due("the slip stays", x.look(4), 6);
        due("tell rock", x.tell(0, 0, 20), true);
        due("rock", x.column(0, 1), 20);
        due("no slip any more", x.look(4), 0);
        due("no act", x.look(9), 0);
        // a TOP is held as told, so it counts again when GROUND is filled
        x.dig(3, -30);
        due("top 1 as filled", x.column(3, 5), 50);
        due("top 3 as filled", x.column(3, 7), 9);
    }

    private static void dig() {
        promise = 4;
        SlopeJudge x = new SlopeJudge();
        x.tell(2, 0, 5);
        due("circle", x.circle(40, 25, 10, true), 6);
        due("dig(2, 16)", x.dig(2, 16), NONE);
        due("dig(2, 0)", x.dig(2, 0), NONE);
        due("dig(-1, 1)", x.dig(-1, 1), NONE);
        due("dig(21, 1)", x.dig(21, 1), NONE);
        due("dig(2, -81)", x.dig(2, -81), NONE);
        due("dig(2, least)", x.dig(2, Integer.MIN_VALUE), NONE);
        due("dig(2, most)", x.dig(2, Integer.MAX_VALUE), NONE);
        due("the slip stays", x.look(4), 6);
        due("dig(2, 15)", x.dig(2, 15), 5);
        due("no slip", x.look(4), 0);
        due("dig(2, -95)", x.dig(2, -95), 100);
        due("dig(3, 20)", x.dig(3, 20), 0);
        due("dig(3, 1)", x.dig(3, 1), NONE);
        due("acts", x.look(9), 3);
        due("ground", x.column(2, 0), 100);
    }

    private static void soilQuakeAnchor() {
        promise = 5;
        SlopeJudge x = new SlopeJudge();
        int[][] cannot = {{-1, 1, 0, 0}, {4, 1, 0, 0}, {0, 0, 0, 0}, {0, 31, 0, 0}, {0, 1, -1, 0}, {0, 1, 201, 0},
            {0, 1, 0, -1}, {0, 1, 0, 1501}};
        for (int[] c : cannot) {
            due("soil that can't be", x.soil(c[0], c[1], c[2], c[3]), false);
        }
        due("soil stays", x.layer(0, 1), 10);
        due("soil(3, 30, 200, 1500)", x.soil(3, 30, 200, 1500), true);
        due("soil(0, 1, 0, 0)", x.soil(0, 1, 0, 0), true);
        due("weight", x.layer(3, 0), 30);
        due("hold", x.layer(3, 1), 200);
        due("rub", x.layer(3, 2), 1500);
        due("hold 0", x.layer(0, 1), 0);
        promise = 6;
        due("quake(-1)", x.quake(-1), false);
        due("quake(501)", x.quake(501), false);
        due("quake(500)", x.quake(500), true);
        due("look(2)", x.look(2), 500);
        due("quake(0)", x.quake(0), true);
        due("look(2)", x.look(2), 0);
        promise = 7;
        int[][] none = {{-1, 0, 0, 1}, {6, 0, 0, 1}, {0, -1, 0, 1}, {0, 21, 0, 1}, {0, 0, -1, 1}, {0, 0, 101, 1},
            {0, 0, 0, -1}, {0, 0, 0, 501}};
        for (int[] c : none) {
            due("anchor that can't be", x.anchor(c[0], c[1], c[2], c[3]), false);
        }
        due("anchor", x.anchor(5, 20, 100, 500), true);
        due("anchor", x.anchor(1, 3, 0, 1), true);
        due("look(3)", x.look(3), 34);
        due("anchored(5, 0)", x.anchored(5, 0), 20);
        due("anchored(5, 1)", x.anchored(5, 1), 100);
        due("anchored(5, 2)", x.anchored(5, 2), 500);
        due("pull 0", x.anchor(5, 0, 0, 0), true);
        due("look(3)", x.look(3), 2);
        due("anchored(5, 0)", x.anchored(5, 0), NONE);
    }

    private static void tape() {
        promise = 8;
        SlopeJudge x = new SlopeJudge();
        for (int i = 1; i <= 30; i++) {
            due("feed " + i, x.feed(0x20202020, 0x20202020, 0x20202020, 0x20202020, 0x20202020), 20 * i);
        }
        due("feed beyond 600", x.feed(0, 0, 0, 0, 0), NONE);
        due("look(10)", x.look(10), 600);
        promise = 9;
        due("end(601)", x.end(601), false);
        due("end(-1)", x.end(-1), false);
        due("end(600)", x.end(600), true);
        due("end(581)", x.end(581), true);
        promise = 8;
        due("feed beyond 600", x.feed(0, 0, 0, 0, 0), NONE);
        due("look(10)", x.look(10), 581);
        promise = 9;
        due("end(580)", x.end(580), true);
        due("end(581) of 580", x.end(581), false);
        due("end(0)", x.end(0), true);
        due("look(10)", x.look(10), 0);
        promise = 8;
        // "columns 4 2;" with the highest byte first, then eight bytes that are cut off
        due("feed", x.feed(0x636f6c75, 0x6d6e7320, 0x3420323b, -1, 0x80ff7f01), 20);
        due("end(12)", x.end(12), true);
        due("text()", x.text(), 1);
        due("n", x.look(0), 4);
        due("B", x.look(1), 2);
    }

    private static void text() {
        promise = 10;
        SlopeJudge x = new SlopeJudge();
        x.circle(40, 25, 10, true);
        put(x, "  columns5 010;ground 1*3 22 3 *2;rock 1 1 0*4;top3 4*6 ;top 1 0 1 2 3 4 5;load 500*6;"
                + "water100*6;soil 3 1 0 1500;quake 500;anchor 5 5 100 500;anchor 0 0 0 1;  ");
        due("text()", x.text(), 11);
        due("the tape is empty", x.look(10), 0);
        due("fault(0)", x.fault(0), 0);
        due("fault(1)", x.fault(1), NONE);
        due("n", x.look(0), 5);
        due("B", x.look(1), 10);
        due("quake", x.look(2), 500);
        due("anchors", x.look(3), 33);
        due("no slip", x.look(4), 0);
        int[] ground = {1, 1, 1, 22, 3, 3};
        int[] rock = {1, 1, 0, 0, 0, 0};
        int[] top1 = {0, 1, 1, 3, 3, 3};
        for (int c = 0; c <= 5; c++) {
            due("ground " + c, x.column(c, 0), ground[c]);
            due("rock " + c, x.column(c, 1), rock[c]);
            due("water " + c, x.column(c, 2), ground[c]);
            due("load " + c, x.column(c, 3), 500);
            due("top 1 of " + c, x.column(c, 5), top1[c]);
            due("top 2 of " + c, x.column(c, 6), 0);
        }
        due("soil 3", x.layer(3, 2), 1500);
        due("soil 0 as at first", x.layer(0, 2), 300);
        due("acts", x.look(9), 1);
        put(x, "columns 6 1;");
        due("text()", x.text(), 1);
        due("all is anew", x.column(0, 0) + x.look(3) + x.look(2), 20);
        StringBuilder full = new StringBuilder("columns 6 1;");
        while (full.length() < 600) {
            full.append(' ');
        }
        put(x, full.toString());
        due("text() of 600 bytes", x.text(), 1);
        x.undo();
        for (String t : new String[] {"columns 6 1; soil", "columns 6 1; quake 1", "columns 6 1; ground 1*"}) {
            full.setLength(0);
            for (int i = t.length(); i < 600; i++) {
                full.append(' ');
            }
            put(x, full + t);
            due("a text that ends too early, with 600 bytes", x.text(), NONE);
            due("fault(1)", x.fault(1), 600);
        }
        put(x, "columns 6 1; quake 501;");
        x.quake(3);
        due("text() with a fault", x.text(), NONE);
        due("all stays", x.look(2), 3);
        due("but the tape is empty", x.look(10), 0);
        due("what was on it is gone", x.end(1), false);
        due("feed() comes first", x.feed(0, 0, 0, 0, 0), 20);
        due("bytes of 0 are no text", x.text(), NONE);
        due("feed() comes first again", x.feed(0, 0, 0, 0, 0), 20);
        x.end(0);
        due("an empty tape is no text", x.text(), NONE);
        due("the tape stays empty", x.look(10), 0);
        due("acts", x.look(9), 2);
    }

    private static void faults() {
        promise = 11;
        due("fault(2)", new SlopeJudge().fault(2), NONE);
        due("fault(-1)", new SlopeJudge().fault(-1), NONE);
        faulty("", 1, 0);
        faulty("   ", 1, 3);
        faulty("column 4 4;", 1, 0);
        faulty(" columnsx 4 4;", 1, 1);
        faulty("Columns 4 4;", 1, 0);
        faulty("4 4;", 1, 0);
        faulty("columns", 1, 7);
        faulty("columns ;", 1, 8);
        faulty("columns 4;", 1, 9);
        faulty("columns 44;", 2, 8);
        faulty("columns 3 4;", 2, 8);
        faulty("columns 41 99;", 2, 8);
        faulty("columns 4 0;", 2, 10);
        faulty("columns 4 11;", 2, 10);
        faulty("columns 99999999999999999999 4;", 2, 8);
        faulty("columns 4 4", 1, 11);
        faulty("columns 4 4  ", 1, 13);
        faulty("columns 4 4 4;", 1, 12);
        faulty("columns 4 4;;", 1, 12);
        faulty("columns 4 4;columns 4 4;", 1, 12);
        faulty("columns 4 4; rocks 0*5;", 1, 13);
        faulty("columns 4 4; \u00e9", 1, 13);
        faulty("columns 4 4;ground;", 1, 18);
        faulty("columns 4 4;ground 1;", 2, 20);
        faulty("columns 4 4;ground 1*4 ;", 2, 23);
        faulty("columns 4 4;ground 1*4", 1, 22);
        faulty("columns 4 4;ground 1*4 x;", 1, 23);
        faulty("columns 4 4;ground 1*6;", 2, 21);
        faulty("columns 4 4;ground 1*0 1*5;", 2, 21);
        faulty("columns 4 4;ground 1*3 1*3;", 2, 25);
        faulty("columns 4 4;ground 1*5 999;", 1, 23);
        faulty("columns 4 4;ground 1*2*3;", 1, 22);
        faulty("columns 4 4;ground *5;", 1, 19);
        faulty("columns 4 4;ground 1*;", 1, 21);
        faulty("columns 4 4;ground 101*5;", 2, 19);
        faulty("columns 4 4;water 101*5;", 2, 18);
        faulty("columns 4 4;rock 101*5;", 2, 17);
        faulty("columns 4 4;load 501*5;", 2, 17);
        faulty("columns 4 4;top 0 1*5;", 2, 16);
        faulty("columns 4 4;top 4 1*5;", 2, 16);
        faulty("columns 4 4;top 1;", 1, 17);
        faulty("columns 4 4;soil 4 1 1 1;", 2, 17);
        faulty("columns 4 4;soil 0 0 1 1;", 2, 19);
        faulty("columns 4 4;soil 0 1 201 1;", 2, 21);
        faulty("columns 4 4;soil 0 1 1 1501;", 2, 23);
        faulty("columns 4 4;soil 0 1 1;", 1, 22);
        faulty("columns 4 4;soil 0 1 1 1 1;", 1, 25);
        faulty("columns 4 4;soil 0 31 1 1;", 2, 19);
        faulty("columns 4 4;lock 0*5;", 1, 12);
        faulty("columns 4 4;hop 1 0*5;", 1, 12);
        faulty("xolumns 4 4;", 1, 0);
        faulty("columns 4 4;quake 501;", 2, 18);
        faulty("columns 4 4;quake;", 1, 17);
        faulty("columns 4 4;anchor 6 0 0 1;", 2, 19);
        faulty("columns 4 4;anchor 0 5 0 1;", 2, 21);
        faulty("columns 4 4;anchor 0 0 101 1;", 2, 23);
        faulty("columns 4 4;anchor 0 0 0 0;", 2, 25);
        faulty("columns 4 4;anchor 0 0 0 501;", 2, 25);
        faulty("columns 4 4;quake 1;quake 1;", 3, 20);
        faulty("columns 4 4;rock 1*5; rock x", 3, 22);
        faulty("columns 4 4;top 1 1*5;top 1 1*5;", 3, 26);
        faulty("columns 4 4;soil 0 1 1 1;soil 1 1 1 1;soil 0 1 1 1;", 3, 43);
        faulty("columns 4 4;anchor 0 0 0 1;anchor 0 0 0 1;", 3, 34);
        faulty("columns 4 4;rock 21*5;  ", 4, 24);
        faulty("columns 4 4;rock 21 0*4;", 4, 24);
        faulty("columns 4 4;rock 0*4 21;", 4, 24);
        faulty("columns 4 4;rock 2*5;ground 3*4 1;", 4, 34);
        faulty("columns 4 4;rock 21*5", 1, 21);
        faulty("columns 4 4;rock 21*5;quake", 1, 27);
        SlopeJudge x = new SlopeJudge();
        put(x, "columns 4 4;rock 21*5;");
        x.text();
        put(x, "ground 21*5;");
        due("a text does not go on behind a fault", x.text(), NONE);
        due("fault(0)", x.fault(0), 1);
        due("its place is that of the new text", x.fault(1), 0);
        put(x, "columns 4 4;ground 21*5;rock 21*5;");
        due("told anew, whole", x.text(), 3);
        due("fault(0)", x.fault(0), 0);
        due("fault(1)", x.fault(1), NONE);
    }

    private static void circle() {
        promise = 12;
        SlopeJudge x = new SlopeJudge();
        due("circle(40, 25, 10)", x.circle(40, 25, 10, false), 6);
        due("right", x.look(7), 0);
        // 40 less 8: 6 is the root of 36 and of no less; 40 less 4: 9 is the root of 84
        int[] bases = {20, 19, 16, 15, 16, 19, 20};
        for (int c = 7; c <= 13; c++) {
            due("base " + c, x.column(c, 8), bases[c - 7]);
        }
        int[][] cannot = {{-51, 25, 10}, {451, 25, 10}, {40, -51, 10}, {40, 451, 10}, {40, 25, 0}, {40, 25, 501},
            {40, 25, Integer.MIN_VALUE}, {40, 30, 10}, {0, 25, 10}, {80, 25, 10}, {40, 0, 400}, {42, 22, 1}};
        for (int[] c : cannot) {
            due("circle(" + c[0] + ", " + c[1] + ", " + c[2] + ")", x.circle(c[0], c[1], c[2], true), NONE);
        }
        due("it stays", x.look(5) * 100 + x.look(6), 713);
        due("it still goes right", x.look(7), 0);
        due("rock at one column alone", x.tell(10, 0, 18), true);
        due("circle", x.circle(40, 25, 10, true), 6);
        due("the rock is its base", x.column(10, 8), 18);
        x.tell(10, 0, 20);
        due("rock as high as ground ends the first row", x.circle(40, 25, 10, true), 3);
        due("b", x.look(6), 10);
        due("the least radius", x.circle(40, 20, 1, true), NONE);
        x.tell(10, 0, 0);
        due("one column is cut", x.circle(40, 20, 1, true), 2);
        due("it is", x.column(10, 8), 19);
        due("deep below all", x.circle(40, -50, 20, true), 12);
        due("no lower than rock", x.column(10, 8), 0);
        SlopeJudge wide = told("columns 40 10; ground 0 20*39 0;");
        due("x 450", wide.circle(450, 20, 70, true), 2);
        due("x 451", wide.circle(451, 20, 70, true), NONE);
        due("x -50", wide.circle(-50, 20, 70, true), 2);
        due("x -51", wide.circle(-51, 20, 70, true), NONE);
        due("y 450", wide.circle(200, 450, 440, true) > 0, true);
        due("y 451", wide.circle(200, 451, 440, true), NONE);
        due("y -50", wide.circle(200, -50, 60, true) > 0, true);
        due("y -51", wide.circle(200, -51, 60, true), NONE);
        due("r 500", told("columns 40 1; ground 0 20*39 0;").circle(20, 450, 500, true), 40);
        due("r 501", told("columns 40 1; ground 0 20*39 0;").circle(20, 450, 501, true), NONE);
        due("the first row begins at 0", told("columns 8 4; ground 20 0 20*7;").circle(12, 20, 16, true), NONE);
        due("only the first row", told("columns 8 4; ground 0 20 0 20 0 20*4; rock 0*9;").circle(16, 20, 16, true), 2);
    }

    private static void points() {
        promise = 13;
        SlopeJudge x = new SlopeJudge();
        due("points of none", x.points(true), NONE);
        due("point(0, 100)", x.point(0, 100), 1);
        promise = 14;
        due("points of one", x.points(true), NONE);
        promise = 13;
        due("not rising", x.point(0, 5), NONE);
        due("column 21", x.point(21, 5), NONE);
        due("column -2", x.point(-2, 5), NONE);
        due("height 101", x.point(1, 101), NONE);
        due("height -1", x.point(1, -1), NONE);
        for (int c = 1; c < 12; c++) {
            due("point(" + c + ", 5)", x.point(c, 5), c + 1);
        }
        due("the 13th", x.point(13, 5), NONE);
        due("look(8)", x.look(8), 12);
        due("point(NONE)", x.point(NONE, 999), 0);
        due("look(8)", x.look(8), 0);
        promise = 14;
        x.point(1, 17);
        x.point(4, 15);
        x.point(8, 18);
        due("points", x.points(false), 7);
        // 17 less 2/3, less 4/3; 15 and 3/4, 6/4, 9/4
        int[] bases = {20, 16, 15, 15, 15, 16, 17, 20};
        for (int c = 1; c <= 8; c++) {
            due("base " + c, x.column(c, 8), bases[c - 1]);
        }
        due("right", x.look(7), 0);
        x.tell(3, 0, 16);
        due("below rock", x.points(true), NONE);
        due("it stays none", x.look(4), 0);
        x.tell(3, 0, 15);
        due("at rock", x.points(true), 7);
        due("left", x.look(7), 1);
        x.point(10, 30);
        due("not below ground at 9", x.points(true), NONE);
        due("it stays", x.look(4), 7);
        x.size(8, 1);
        due("points stay", x.look(8), 4);
        due("no column 10 any more", x.points(true), NONE);
        x.point(NONE, 0);
        x.point(3, 0);
        x.point(4, 100);
        due("side by side", x.points(true), 1);
        SlopeJudge twelve = new SlopeJudge();
        for (int c = 0; c < 12; c++) {
            twelve.point(c, 19 - c % 2);
        }
        due("twelve points", twelve.points(true), 11);
        due("base 9", twelve.column(9, 8), 18);
        due("base a", x.column(3, 8), 20);
        due("base b", x.column(4, 8), 20);
    }

    private static void worst() {
        promise = 15;
        SlopeJudge x = told("columns 6 2; ground 2 2 4 6 8 8 8; soil 0 20 2 100;");
        due("worst(0)", x.worst(0, true), NONE);
        due("worst(13)", x.worst(13, true), NONE);
        due("worst(12)", x.worst(12, true) > 0, true);
        due("worst(1)", x.worst(1, true), x.tables(1, true, 2) - x.tables(1, true, 1));
        due("none goes right", x.worst(3, false) == NONE, x.tables(3, false, 0) == 20000);
        int many = x.worst(3, true);
        due("worst(3)", many, x.tables(3, true, 2) - x.tables(3, true, 1));
        due("a", x.look(5), x.tables(3, true, 1));
        due("b", x.look(6), x.tables(3, true, 2));
        due("left", x.look(7), 1);
        due("it is the least safe", x.factor(), x.tables(3, true, 0));
        due("level ground", new SlopeJudge().worst(2, true), NONE);
    }

    private static void undo() {
        promise = 16;
        SlopeJudge x = new SlopeJudge();
        due("undo of none", x.undo(), NONE);
        x.circle(40, 25, 10, true);
        x.anchor(1, 9, 19, 7);
        x.quake(9);
        x.tell(4, 2, 44);
        x.point(3, 3);
        x.state(77);
        due("dig", x.dig(10, 2), 18);
        x.state(78);
        x.quake(10);
        x.point(4, 4);
        due("undo", x.undo(), 0);
        due("ground", x.column(10, 0), 20);
        due("the slip is back", x.look(4), 6);
        due("its bases too", x.column(10, 8), 15);
        due("the quake", x.look(2), 9);
        due("points stay", x.look(8), 2);
        due("state stays", x.look(13), 78);
        due("size", x.size(5, 5), true);
        put(x, "columns 7 7;");
        due("text", x.text(), 1);
        due("mirror", x.mirror(), false);
        due("acts", x.look(9), 3);
        due("undo", x.undo(), 2);
        due("undo", x.undo(), 1);
        due("n", x.look(0), 5);
        due("undo", x.undo(), 0);
        due("n", x.look(0), 20);
        due("load", x.column(4, 3), 44);
        due("anchor", x.anchored(1, 3), 1);
        due("undo", x.undo(), NONE);
        for (int i = 1; i <= 10; i++) {
            x.dig(0, 1);
            due("acts", x.look(9), Math.min(i, 8));
        }
        for (int i = 7; i >= 0; i--) {
            due("undo", x.undo(), i);
        }
        due("two can't be undone", x.column(0, 0), 18);
        due("undo", x.undo(), NONE);
        due("mirror of a slip", x.circle(40, 25, 10, true) > 0 && x.mirror(), true);
        due("undo of mirror", x.undo(), 0);
        due("left", x.look(7), 1);
    }

    private static void askedGround() {
        promise = 17;
        SlopeJudge x = layered();
        due("column(-1, 0)", x.column(-1, 0), -10);
        due("column(5, 0)", x.column(5, 0), -10);
        due("column(0, -1)", x.column(0, -1), -10);
        due("column(0, 9)", x.column(0, 9), -10);
        int[] of1 = {20, 0, 20, 7, 20, 15, 15, 11, 12};
        for (int what = 0; what < 9; what++) {
            due("column(1, " + what + ")", x.column(1, what), of1[what]);
        }
        promise = 18;
        due("layer(-1, 0)", x.layer(-1, 0), NONE);
        due("layer(4, 0)", x.layer(4, 0), NONE);
        due("layer(0, 3)", x.layer(0, 3), NONE);
        due("layer(0, -1)", x.layer(0, -1), NONE);
        due("layer(2, 0)", x.layer(2, 0), 30);
        due("layer(2, 1)", x.layer(2, 1), 40);
        due("layer(2, 2)", x.layer(2, 2), 500);
        promise = 19;
        x.anchor(2, 0, 21, 9);
        x.anchor(3, 4, 100, 9);
        x.anchor(4, 2, 10, 9);
        due("above the base at a", x.anchored(2, 3), 1);
        due("at b", x.anchored(3, 3), 0);
        due("at the base", x.anchored(4, 3), 0);
        due("anchored(-1, 0)", x.anchored(-1, 0), NONE);
        due("anchored(6, 0)", x.anchored(6, 0), NONE);
        due("anchored(2, 4)", x.anchored(2, 4), NONE);
        due("anchored(2, -1)", x.anchored(2, -1), NONE);
        due("anchored(0, 3)", x.anchored(0, 3), NONE);
        x.tell(0, 0, 0);
        due("without a slip", x.anchored(2, 3), 0);
    }

    private static void slices() {
        promise = 20;
        SlopeJudge x = layered();
        long[][] due = {
            {0, -8, 441, 240, 201, 0, 120300, -3395700},
            {1, -2, 966, 360, 606, 2, 543000, -1642200},
        };
        for (int i = 0; i < due.length; i++) {
            for (int what = 0; what < 8; what++) {
                due("slice(" + i + ", " + what + ")", x.slice(i, what), due[i][what]);
            }
        }
        due("slice(2, 5)", x.slice(2, 5), 2);
        due("slice(-1, 0)", x.slice(-1, 0), NO_SLICE);
        due("slice(4, 0)", x.slice(4, 0), NO_SLICE);
        due("slice(0, 8)", x.slice(0, 8), NO_SLICE);
        due("slice(0, -1)", x.slice(0, -1), NO_SLICE);
        shaped(x, false, 20, 12, 10, 12, 20);
        due("rise to the right", x.slice(0, 1), 8);
        due("push to the right", x.slice(0, 7), 441 * 8300);
        shaped(x, true, 20, 5, 4, 12, 20);
        due("in layer 3", x.slice(1, 5), 3);
        due("lift beyond weight: press 0", told("columns 4 1; water 100*5; soil 0 1 1 1;").points(true), NONE);
        SlopeJudge light = told("columns 4 1; water 100*5; soil 3 1 1 1; soil 0 1 1 1; soil 1 1 1 1; soil 2 1 1 1;");
        shaped(light, true, 20, 10, 10, 10, 20);
        due("weight", light.slice(1, 2), 20);
        due("lift", light.slice(1, 3), 200);
        due("press", light.slice(1, 4), 0);
        due("strength", light.slice(1, 6), 2000);
        promise = 21;
        x = layered();
        due("rubs(0, 1000)", x.rubs(0, 1000), 14636500);
        due("rubs(1, 1000)", x.rubs(1, 1000), 3529500);
        due("rubs(0, 800): fast", x.rubs(0, 800), NONE);
        due("rubs(0, 1): fast", x.rubs(0, 1), NONE);
        due("rubs(0, 801)", x.rubs(0, 801), 2344767300L);
        due("rubs(0, 0)", x.rubs(0, 0), -10);
        due("rubs(0, 20001)", x.rubs(0, 20001), -10);
        due("rubs(-1, 1)", x.rubs(-1, 1), -10);
        due("rubs(4, 1000)", x.rubs(4, 1000), -10);
        due("rubs(3, 20000) is no none", x.rubs(3, 20000) > 0, true);
    }

    private static void balance() {
        promise = 22;
        // one SLICE with LOAD: RISE 1, B 1, WEIGHT 100, STRENGTH 0 and 100 times 500, PUSH 100000
        SlopeJudge x = told("columns 4 1; ground 1*2 2*3; load 0 100 0*3; soil 0 1 0 500;");
        x.point(1, 0);
        x.point(2, 0);
        due("points", x.points(true), 1);
        due("push", x.slice(0, 7), 100000);
        due("rubs at 500", x.rubs(0, 500), 50000);
        // 50000 times 2 times k by (k and 500), a thousandfold, against 100000 times k: as long as k and 500 are up to 1000
        due("stands(500)", x.stands(500), 1);
        due("stands(501)", x.stands(501), 0);
        due("stands(0)", x.stands(0), NONE);
        due("stands(20001)", x.stands(20001), NONE);
        due("without a slip", new SlopeJudge().stands(1), NONE);
        due("a fast slice stands", layered().stands(800), 1);
        // PUSH 1, no RUBS: even this is too much
        SlopeJudge one = told("columns 4 1; load 1 0*4; soil 0 1 0 0; quake 1;");
        one.point(0, 0);
        one.point(1, 0);
        one.points(true);
        due("push 1", one.sum(0), 1);
        due("stands(1)", one.stands(1), 0);
        due("a pull of 1 is enough", one.pull(1), 1);
        promise = 23;
        due("factor", x.factor(), 500);
        due("without a slip", new SlopeJudge().factor(), NONE);
        x.soil(0, 1, 0, 0);
        due("nothing holds: at 1 it falls", x.factor(), 0);
        x.anchor(0, 1, 2, 50);
        due("pulled back as much as pushed", x.factor(), 20000);
        promise = 24;
        due("pulls", x.sum(1), 100000);
        SlopeJudge l = layered();
        long pushes = 0;
        long weights = 0;
        long lifts = 0;
        long strengths = 0;
        for (int i = 0; i < 4; i++) {
            pushes += l.slice(i, 7);
            weights += l.slice(i, 2);
            lifts += l.slice(i, 3);
            strengths += l.slice(i, 6);
        }
        due("sum(0)", l.sum(0), pushes);
        due("sum(1)", l.sum(1), 0);
        due("sum(2)", l.sum(2), weights);
        due("sum(3)", l.sum(3), lifts);
        due("sum(4)", l.sum(4), strengths);
        due("sum(2) by hand", l.sum(2), 441 + 966 + 945 + 420);
        due("sum(3) by hand", l.sum(3), 240 + 360 + 120);
        due("sum(5)", l.sum(5), NO_SLICE);
        due("sum(-1)", l.sum(-1), NO_SLICE);
        due("without a slip", new SlopeJudge().sum(0), NO_SLICE);
        promise = 22;
        wide();
    }

    /** RUBS so great that a thousand times them do not fit a long. */
    private static void wide() {
        SlopeJudge x = told("columns 4 10; ground 100*5; load 500*5; soil 0 30 200 1491; soil 1 30 200 1491;"
                + "soil 2 30 200 1491; soil 3 30 200 1491; quake 500;");
        x.point(0, 100);
        x.point(1, 1);
        x.point(2, 100);
        due("points", x.points(true), 2);
        due("rubs", x.rubs(0, 14761), (4000000L + 39700L * 1491) * 9901 * 14761);
        due("stands where a long would not hold it", x.stands(14761), 1);
        due("fast just below", x.rubs(0, 14760), NONE);
        due("stands just below", x.stands(14760), 1);
    }

    private static void bearing() {
        promise = 25;
        due("dry without a slip", new SlopeJudge().dry(), NONE);
        SlopeJudge x = told("columns 4 2; ground 20 20 22 24 24; water 0 20 20 20 24; soil 0 20 1 300;");
        shaped(x, true, 20, 19, 18, 21, 24);
        SlopeJudge y = told("columns 4 2; ground 20 20 22 24 24; soil 0 20 1 300;");
        shaped(y, true, 20, 19, 18, 21, 24);
        due("dry", x.dry(), y.factor());
        due("water makes it less safe", x.factor() < x.dry(), true);
        due("dry stays in thought", x.column(2, 2), 20);
        promise = 26;
        int k = (x.factor() + x.dry()) / 2;
        due("bears what it does not stand", x.bears(k), NONE);
        int rise = y.bears(k);
        due("bears some", rise > 0 && rise < 100, true);
        for (int c = 0; c <= 4; c++) {
            y.tell(c, 1, rise);
        }
        due("with so much it stands", y.stands(k), 1);
        due("bears 0", y.bears(k), 0);
        for (int c = 0; c <= 4; c++) {
            y.tell(c, 1, rise + 1);
        }
        due("with more it does not", y.stands(k), 0);
        due("bears(0)", x.bears(0), NONE);
        due("bears(20001)", x.bears(20001), NONE);
        due("without a slip", new SlopeJudge().bears(1), NONE);
        SlopeJudge level = new SlopeJudge();
        level.circle(40, 25, 10, true);
        due("bears all", level.bears(20000), 100);
        promise = 27;
        int more = x.needs(x.factor() + 100);
        due("needs some", more > 0, true);
        due("needs none", x.needs(x.factor()), 0);
        x.soil(0, 20, 1 + more, 300);
        due("stands then", x.needs(x.factor()), 0);
        SlopeJudge loose = told("columns 4 1; ground 0 0 1*3; load 500*5;");
        loose.point(1, 0);
        loose.point(2, 0);
        loose.points(true);
        due("needs too much", loose.needs(20000), NONE);
        // level, RUB 0: RUBS are 2000 times HOLD, PUSH is LOAD times QUAKE
        SlopeJudge level500 = told("columns 4 1; load 500 0*4; soil 0 1 0 0; quake 100;");
        level500.point(0, 0);
        level500.point(1, 0);
        level500.points(true);
        due("needs 500", level500.needs(20000), 500);
        level500.tell(1, 2, 1);
        due("needs 501", level500.needs(20000), NONE);
        due("needs(0)", x.needs(0), NONE);
        due("needs(20001)", x.needs(20001), NONE);
        due("without a slip", new SlopeJudge().needs(1), NONE);
        promise = 28;
        SlopeJudge z = told("columns 4 1; ground 1*2 2*3; load 0 100 0*3; soil 0 1 0 0;");
        z.point(1, 0);
        z.point(2, 0);
        z.points(true);
        // PUSH 100000, RUBS 0: 2000 times 50
        due("pull(1)", z.pull(1), 50);
        due("pull(20000)", z.pull(20000), 50);
        z.tell(1, 2, 101);
        due("pull upwards", z.pull(7), 51);
        z.anchor(0, 1, 2, 50);
        due("pull beside an anchor", z.pull(7), 1);
        z.anchor(0, 1, 2, 51);
        due("pull 0", z.pull(7), 0);
        due("pull(0)", z.pull(0), NONE);
        due("pull(20001)", z.pull(20001), NONE);
        due("without a slip", new SlopeJudge().pull(1), NONE);
        SlopeJudge steep = told("columns 4 1; ground 0 0 100*3; load 500*5; soil 0 30 0 0;");
        steep.point(1, 0);
        steep.point(2, 0);
        steep.points(true);
        // PUSH 1000 times 100000 is 2000 times 50000
        due("more than 20000", steep.pull(1), NONE);
        steep.tell(1, 2, 0);
        steep.tell(2, 2, 400);
        due("20000", steep.pull(1), 20000);
        // 400 times (100000 and 5) is 2000 times 20001
        steep.quake(5);
        due("20001", steep.pull(1), NONE);
    }

    private static void circles() {
        promise = 29;
        SlopeJudge x = told("columns 10 2; ground 10*4 12 14 16 18*4; soil 0 20 2 200; water 5*11;");
        due("tried that can't be", x.tried(10, 20, 0, true), NONE);
        due("tried that does not cut", x.tried(10, 60, 10, true), NONE);
        due("tried", x.tried(10, 24, 12, true), same(x, 10, 24, 12));
        due("the slip stays none", new SlopeJudge().tried(40, 25, 10, true) * 10 + new SlopeJudge().look(4), 200000);
        promise = 30;
        due("s 0", x.boxes(10, 24, 12, 0, true, 0), -100);
        due("s 65", x.boxes(10, 24, 12, 65, true, 0), -100);
        due("what 5", x.boxes(10, 24, 12, 4, true, 5), -100);
        due("what -1", x.boxes(10, 24, 12, 4, true, -1), -100);
        due("x 451", x.boxes(451, 25, 14, 4, true, 0), -100);
        due("none cuts", x.boxes(400, 400, 1, 1, true, 0), -100);
        int f = x.boxes(10, 24, 12, 8, true, 0);
        int bx = x.boxes(10, 24, 12, 8, true, 1);
        int by = x.boxes(10, 24, 12, 8, true, 2);
        int br = x.boxes(10, 24, 12, 8, true, 3);
        due("no safer than where it began", f <= x.tried(10, 24, 12, true), true);
        due("its factor", x.tried(bx, by, br, true), f);
        for (int i = 0; i < 27; i++) {
            int t = x.tried(bx + i / 9 - 1, by + i / 3 % 3 - 1, br + i % 3 - 1, true);
            due("none beside it is less safe", t == NONE || t >= f, true);
        }
        SlopeJudge level = new SlopeJudge();
        due("rounds", level.boxes(40, 25, 10, 64, true, 4), 7);
        due("a start that does not cut", level.boxes(40, 60, 10, 64, true, 0), 20000);
        SlopeJudge far = new SlopeJudge();
        Model model = new Model();
        far.size(40, 7);
        model.size(40, 7);
        far.soil(3, 20, 36, 384);
        model.soil(3, 20, 36, 384);
        for (int c = 3; c <= 40; c++) {
            far.dig(c, -4 * Math.min(20, c - 2));
            model.dig(c, -4 * Math.min(20, c - 2));
        }
        int[] hand = model.w.boxes(16, 403, 364, 1, true);
        due("rounds, at most", far.boxes(16, 403, 364, 1, true, 4), 60);
        due("at hand by then: x", far.boxes(16, 403, 364, 1, true, 1), hand[0]);
        due("at hand by then: y", far.boxes(16, 403, 364, 1, true, 2), hand[1]);
        due("at hand by then: r", far.boxes(16, 403, 364, 1, true, 3), hand[2]);
        due("at hand by then: its factor", far.boxes(16, 403, 364, 1, true, 0), hand[3]);
        due("near by there is none", level.boxes(40, 60, 10, 1, true, 1), -100);
        promise = 32;
        due("dug by 0", x.dug(4, 0, 10, 24, 12, true), NONE);
        due("dug too deep", x.dug(4, 13, 10, 24, 12, true), NONE);
        due("dug where no column is", x.dug(11, 1, 10, 24, 12, true), NONE);
        due("dug, no circle", x.dug(4, 1, 9, 25, 0, true), NONE);
        due("dug, none cuts", x.dug(4, 1, 400, 400, 1, true), NONE);
        int dug = x.dug(4, 3, 10, 24, 12, true);
        due("nothing of it stays", x.column(4, 0) * 100 + x.look(9), 1201);
        x.dig(4, 3);
        due("dug", dug, x.boxes(10, 24, 12, 8, true, 0));
        x.undo();
        due("filled", x.dug(4, -3, 10, 24, 12, true) > 0, true);
        deepAndScan(x);
    }

    private static void deepAndScan(SlopeJudge x) {
        promise = 38;
        int f = x.boxes(10, 24, 12, 8, true, 0);
        due("not even as it is", x.deep(4, f + 1, 10, 24, 12, true), NONE);
        int k = x.dug(4, 3, 10, 24, 12, true);
        int d = 0;
        for (int v = 1; v <= 5 && d == v - 1; v++) {
            d = x.dug(4, v, 10, 24, 12, true) >= k ? v : d;
        }
        due("deep", x.deep(4, k, 10, 24, 12, true), d);
        due("five at most", x.deep(9, 1, 10, 24, 12, true), 5);
        due("no column", x.deep(11, 1, 10, 24, 12, true), NONE);
        due("k 0", x.deep(4, 0, 10, 24, 12, true), NONE);
        due("k 20001", x.deep(4, 20001, 10, 24, 12, true), NONE);
        due("no circle", x.deep(4, 1, 9, 25, 501, true), NONE);
        due("there is none: so it has", x.deep(4, 20000, 400, 400, 1, true), 5);
        x.tell(4, 0, 10);
        due("ground less rock", x.deep(4, 20000, 400, 400, 1, true), 2);
        due("nothing of it stays", x.column(4, 0), 12);
        promise = 39;
        int own = x.tried(10, 24, 12, true);
        int cuts = 0;
        int below = 0;
        int belowOwn = 0;
        for (int i = 0; i < 125; i++) {
            int t = x.tried(10 + 3 * (i / 25 - 2), 24 + 3 * (i / 5 % 5 - 2), 12 + 3 * (i % 5 - 2), true);
            cuts += t == NONE ? 0 : 1;
            below += t != NONE && t < 1500 ? 1 : 0;
            belowOwn += t != NONE && t < own ? 1 : 0;
        }
        due("a factor of k is not below it", x.scan(10, 24, 12, 3, true, own, 1), belowOwn);
        due("scan 0", x.scan(10, 24, 12, 3, true, 1500, 0), cuts);
        due("scan 1", x.scan(10, 24, 12, 3, true, 1500, 1), below);
        due("some cut, some are below", cuts > below && below > 0, true);
        due("scan 2", x.scan(10, 24, 12, 3, true, 1500, 2), NONE);
        due("scan -1", x.scan(10, 24, 12, 3, true, 1500, -1), NONE);
        due("s 0", x.scan(10, 24, 12, 0, true, 1500, 0), NONE);
        due("s 65", x.scan(10, 24, 12, 65, true, 1500, 0), NONE);
        due("k 0", x.scan(10, 24, 12, 3, true, 0, 0), NONE);
        due("k 20001", x.scan(10, 24, 12, 3, true, 20001, 0), NONE);
        due("the circle in its midst", x.scan(9, 25, 0, 3, true, 1500, 0), NONE);
        due("at an edge", x.scan(9, 25, 1, 64, true, 1500, 0) >= 0, true);
    }

    private static int same(SlopeJudge x, int cx, int cy, int r) {
        x.circle(cx, cy, r, true);
        return x.factor();
    }

    private static void tables() {
        promise = 31;
        SlopeJudge x = told("columns 4 1; ground 1*2 2*3; rock 1*2 2*3; load 0 100 0*3; soil 0 1 0 500;");
        // rock everywhere: only slips side by side; the one of balance() is the least safe
        due("k", x.tables(1, true, 0), 500);
        due("a", x.tables(1, true, 1), 1);
        due("b", x.tables(1, true, 2), 2);
        due("base of a", x.tables(1, true, 11), 1);
        due("base of b", x.tables(1, true, 12), 2);
        due("base ahead", x.tables(1, true, 10), NONE);
        due("base behind", x.tables(1, true, 13), NONE);
        due("base of no column", x.tables(1, true, 50), NONE);
        due("what 3", x.tables(1, true, 3), NONE);
        due("what 9", x.tables(1, true, 9), NONE);
        due("what 51", x.tables(1, true, 51), NONE);
        due("what -1", x.tables(1, true, -1), NONE);
        due("t 0", x.tables(0, true, 0), NONE);
        due("t 13", x.tables(13, true, 0), NONE);
        x.anchor(0, 1, 99, 500);
        due("without pulls", x.tables(1, true, 0), 500);
        due("the other way", x.tables(1, false, 0), 20000);
        due("none is told", x.tables(1, false, 1), NONE);
        SlopeJudge steep = told("columns 4 1; ground 1*2 9*3; rock 1*2 9*3; load 500*5; soil 0 1 0 0;");
        due("too steep for t: all that are left stand", steep.tables(7, true, 0), 20000);
        due("not too steep", steep.tables(8, true, 0), 0);
        SlopeJudge two = told("columns 5 1; ground 1*2 2*2 3*2; rock 1*2 2*2 3*2; load 0 100 0 0 100 0; soil 0 1 0 0;");
        due("of several the least a", two.tables(1, true, 1), 1);
        due("then the least b", two.tables(1, true, 2), 2);
        SlopeJudge free = told("columns 4 1; ground 0 2*4; rock 0*5; load 0 100 0*3; soil 0 1 0 0; quake 0;");
        // nothing rubs: all that counts is PUSH, and the lesser BASES from b back come first
        due("k 0", free.tables(12, true, 0), 0);
        Model m = new Model();
        m.w = Model.parse("columns 4 1; ground 0 2*4; rock 0*5; load 0 100 0*3; soil 0 1 0 0; quake 0;", new int[1]);
        for (int what = 0; what < 16; what++) {
            due("tables(12, true, " + what + ")", free.tables(12, true, what), m.tables(12, true, what));
        }
    }

    private static void turned() {
        promise = 33;
        SlopeJudge x = layered();
        x.dig(0, 4);
        x.dig(1, -2);
        x.tell(0, 0, 3);
        shaped(x, true, 16, 12, 10, 12, 20);
        x.anchor(2, 1, 40, 9);
        due("mirror", x.mirror(), true);
        int[] ground = {20, 20, 20, 22, 16};
        int[] bases = {20, 12, 10, 12, 16};
        for (int c = 0; c < 5; c++) {
            due("ground " + c, x.column(c, 0), ground[c]);
            due("base " + c, x.column(c, 8), bases[c]);
        }
        due("rock", x.column(4, 1), 3);
        due("water", x.column(3, 2), 22);
        due("load", x.column(3, 3), 7);
        due("top", x.column(4, 7), 11);
        due("anchor", x.anchored(2, 0), 3);
        due("right", x.look(7), 0);
        due("points stay", x.look(8), 5);
        due("twice", x.mirror(), true);
        due("left", x.look(7), 1);
        due("ground", x.column(0, 0), 16);
        SlopeJudge y = new SlopeJudge();
        y.circle(30, 25, 10, true);
        due("a", y.look(5), 5);
        due("b", y.look(6), 10);
        due("mirror", y.mirror(), true);
        due("a", y.look(5), 20 - 10);
        due("b", y.look(6), 20 - 5);
        due("without a slip", new SlopeJudge().mirror(), false);
    }

    private static void bermed() {
        promise = 34;
        SlopeJudge x = told("columns 4 1; ground 1*2 2*3; load 0 100 0*3; soil 0 1 10 500;");
        x.point(1, 0);
        x.point(2, 0);
        x.points(true);
        due("a load that pushes helps not", x.berm(1, 2, x.factor() + 1), NONE);
        due("berm elsewhere", x.berm(0, 0, x.factor() + 1), NONE);
        due("berm 0", x.berm(0, 4, x.factor()), 0);
        due("c beyond d", x.berm(2, 1, 1), NONE);
        due("column -1", x.berm(-1, 1, 1), NONE);
        due("column 5", x.berm(1, 5, 1), NONE);
        due("k 0", x.berm(1, 2, 0), NONE);
        due("k 20001", x.berm(1, 2, 20001), NONE);
        due("without a slip", new SlopeJudge().berm(0, 1, 1), NONE);
        SlopeJudge y = told("columns 4 2; ground 20 20 22 24 24; load 500*2 0 500*2; soil 0 20 0 100;");
        shaped(y, true, 20, 19, 18, 21, 24);
        int k = y.factor() + 20;
        int v = y.berm(0, 1, k);
        due("beyond 500, too", v > 0, true);
        due("nothing of it stays", y.column(0, 3), 500);
        y.tell(0, 2, 0);
        y.tell(1, 2, 0);
        due("from less it would be more than 500", y.berm(0, 1, k), NONE);
        y.tell(0, 2, v);
        y.tell(1, 2, v);
        due("as much as 500", y.berm(0, 1, k), 500);
        y.tell(0, 2, v - 1);
        y.tell(1, 2, v - 1);
        due("501 is too much", y.berm(0, 1, k), NONE);
    }

    private static void shapes() {
        promise = 35;
        SlopeJudge x = layered();
        due("shape(0)", x.shape(0), 2 * 3 * (8 + 10 + 8));
        due("shape(1)", x.shape(1), 10);
        due("shape(2)", x.shape(2), 2);
        due("shape(3)", x.shape(3), 10);
        due("shape(4)", x.shape(4), 2);
        due("shape(5)", x.shape(5), 0);
        due("shape(6)", x.shape(6), NONE);
        due("shape(-1)", x.shape(-1), NONE);
        due("without a slip", new SlopeJudge().shape(0), NONE);
        shaped(x, true, 20, 10, 11, 10, 20);
        due("of several the first", x.shape(2), 1);
        SlopeJudge light = told("columns 4 1; water 100*5; soil 0 9 1 1; soil 1 1 1 1; soil 2 1 1 1; soil 3 1 1 1;");
        shaped(light, true, 20, 10, 10, 10, 20);
        due("afloat", light.shape(5), 4);
        light.soil(0, 10, 1, 1);
        due("lift as much as weight is no more", light.shape(5), 0);
    }

    private static void thrusts() {
        promise = 36;
        SlopeJudge x = layered();
        due("thrust(0, 1000)", x.thrust(0, 1000), -18032200);
        due("thrust(1, 1000)", x.thrust(1, 1000), -23203900);
        // 801 times -3395700 by 1000 is -2719955.7
        due("downwards", x.thrust(0, 801), -2719956 - 2344767300L);
        due("fast", x.thrust(0, 800), NO_THRUST);
        due("one ahead is fast", x.thrust(3, 800), NO_THRUST);
        due("thrust(4, 1000)", x.thrust(4, 1000), NO_THRUST);
        due("thrust(-1, 1000)", x.thrust(-1, 1000), NO_THRUST);
        due("thrust(0, 0)", x.thrust(0, 0), NO_THRUST);
        due("thrust(0, 20001)", x.thrust(0, 20001), NO_THRUST);
        due("without a slip", new SlopeJudge().thrust(0, 1), NO_THRUST);
        SlopeJudge right = layered();
        shaped(right, false, 20, 12, 10, 12, 20);
        due("only one behind is fast", right.thrust(0, 700) > NO_THRUST, true);
        promise = 37;
        due("crest", x.crest(1000), greatest(x, 1000));
        due("crest", x.crest(5000), greatest(x, 5000));
        due("crest to the right", right.crest(3000), greatest(right, 3000));
        due("a slice is fast", x.crest(800), NONE);
        due("the last one is fast", right.crest(800), NONE);
        due("crest(0)", x.crest(0), NONE);
        due("crest(20001)", x.crest(20001), NONE);
        due("without a slip", new SlopeJudge().crest(1), NONE);
        SlopeJudge still = told("columns 4 1; soil 0 1 0 0; soil 1 1 0 0; soil 2 1 0 0; soil 3 1 0 0;");
        shaped(still, true, 20, 19, 19, 19, 20);
        due("of several the first", still.crest(1), 3);
        shaped(still, true, 20, 19, 19, 20);
        still.mirror();
        due("of several the first", still.crest(1), greatest(still, 1));
    }

    private static int greatest(SlopeJudge x, int k) {
        int best = 0;
        for (int i = 1; i < x.look(4); i++) {
            best = x.thrust(i, k) > x.thrust(best, k) ? i : best;
        }
        return best;
    }

    private static void chances() {
        promise = 40;
        SlopeJudge x = layered();
        due("state", x.state(5), 0);
        due("state", x.state(Integer.MIN_VALUE), 5);
        due("look(13)", x.look(13), Integer.MIN_VALUE);
        promise = 41;
        due("chance(0)", x.chance(0, 0, 1), NONE);
        due("chance(41)", x.chance(41, 0, 1), NONE);
        due("w -1", x.chance(1, -1, 1), NONE);
        due("w 51", x.chance(1, 51, 1), NONE);
        due("k 0", x.chance(1, 0, 0), NONE);
        due("k 20001", x.chance(1, 0, 20001), NONE);
        due("no draw", x.look(13), Integer.MIN_VALUE);
        SlopeJudge none = new SlopeJudge();
        due("without a slip", none.chance(1, 0, 1), NONE);
        due("no draw", none.look(13), 0);
        x.state(0);
        SlopeJudge y = told("columns 4 1; ground 1*2 2*3; load 0 100 0*3; soil 0 1 0 500;");
        y.point(1, 0);
        y.point(2, 0);
        y.points(true);
        due("w 0 changes nothing", y.chance(40, 0, 500), 0);
        int s = 0;
        for (int i = 0; i < 320; i++) {
            s = 1664525 * s + 1013904223;
        }
        due("eight draws a time", y.look(13), s);
        y.state(0);
        due("w 0 falls at 501", y.chance(40, 0, 501), 40);
        // RUB r STANDS at 500, if 200 r by (500 and r) is no less than 100
        int fallen = 0;
        s = 0;
        for (int i = 0; i < 40; i++) {
            for (int draw = 0; draw < 8; draw++) {
                s = 1664525 * s + 1013904223;
                if (draw == 1) {
                    int rub = 500 * (90 + (s >>> 8) % 21) / 100;
                    fallen += rub < 500 ? 1 : 0;
                }
            }
        }
        y.state(0);
        due("w 10", y.chance(40, 10, 500), fallen);
        due("some fall, some stand", fallen > 0 && fallen < 40, true);
        due("the soil stays", y.layer(0, 2), 500);
        y.state(0);
        due("w 50", y.chance(1, 50, 1) >= 0, true);
    }

    private static String reported(SlopeJudge x) {
        StringBuilder b = new StringBuilder();
        for (int i = 0; x.sign(i) != NONE && i < 99; i++) {
            b.append((char) x.sign(i));
        }
        return b.toString();
    }

    private static void dueReport(SlopeJudge x, String want) {
        due("report(): " + want, x.report(), want.length());
        due("signs are \"" + want + "\" not \"" + reported(x) + "\"", reported(x).equals(want), true);
    }

    private static void reports() {
        promise = 42;
        SlopeJudge x = told("columns 4 1; ground 1*2 2*3; load 0 100 0*3; soil 0 1 0 500;");
        due("report without a slip", x.report(), NONE);
        x.point(1, 0);
        x.point(2, 0);
        x.points(true);
        dueReport(x, "0.500 1-2 L");
        promise = 43;
        due("sign(-1)", x.sign(-1), NONE);
        due("sign(11)", x.sign(11), NONE);
        x.soil(0, 1, 0, 0);
        due("as it was then", reported(x).equals("0.500 1-2 L"), true);
        promise = 42;
        dueReport(x, "0.000 1-2 L");
        x.points(false);
        dueReport(x, "20.000 1-2 R");
        x.tell(0, 0, 0);
        promise = 43;
        due("it outlives its slip", reported(x).equals("20.000 1-2 R"), true);
        promise = 42;
        due("none is chosen then", x.report(), NONE);
        promise = 43;
        due("sign(0)", x.sign(0), NONE);
        SlopeJudge y = new SlopeJudge();
        y.circle(40, 25, 10, true);
        promise = 42;
        dueReport(y, "20.000 7-13 L");
        y.circle(60, 25, 10, true);
        dueReport(y, "20.000 12-18 L");
    }

    private static void images() {
        promise = 44;
        SlopeJudge x = layered();
        due("there is none", x.image(false), false);
        x.dig(0, 1);
        x.undo();
        x.state(9);
        x.anchor(3, 1, 30, 8);
        x.report();
        put(x, "columns");
        x.text();
        due("taken", x.image(true), true);
        for (int times = 0; times < 2; times++) {
            x.size(9, 9);
            x.circle(40, 25, 10, times == 0);
            dueReport(x, times == 0 ? "20.000 3-6 L" : "20.000 3-6 R");
            String chosen = reported(x);
            x.state(10);
            x.point(NONE, 0);
            put(x, "   4");
            x.text();
            put(x, "rock");
            due("gone back to", x.image(false), true);
            due("n", x.look(0), 4);
            due("B", x.look(1), 3);
            due("quake", x.look(2), 100);
            due("anchors", x.look(3), 8);
            due("the slip", x.look(4), 4);
            due("its base", x.column(2, 8), 10);
            due("points", x.look(8), 5);
            due("no acts", x.look(9), 0);
            due("no acts", x.undo(), NONE);
            due("the tape is as it is", x.look(10), 4);
            due("the fault is as it is", x.fault(1), 3);
            x.end(0);
            due("state", x.look(13), 9);
            promise = 43;
            due("the report as it was when chosen", reported(x).equals(chosen), true);
            promise = 44;
            due("load", x.column(1, 3), 7);
            due("soil", x.layer(2, 2), 500);
        }
        x.mirror();
        x.image(true);
        due("acts stay when it is taken", x.look(9), 1);
        x.quake(1);
        due("the new one", x.image(false), true);
        due("right", x.look(7), 0);
        due("quake", x.look(2), 100);
    }

    /** Only report() chooses a REPORT or leaves none chosen; no other call does. */
    private static void chosenStays() {
        promise = 43;
        SlopeJudge x = new SlopeJudge();
        x.image(true);
        x.circle(40, 25, 10, true);
        dueReport(x, "20.000 7-13 L");
        x.image(false);
        due("behind an image taken ahead of it", reported(x).equals("20.000 7-13 L"), true);
        x.circle(60, 25, 10, true);
        x.mirror();
        x.undo();
        x.undo();
        x.size(4, 1);
        x.undo();
        put(x, "columns 4 1;");
        x.text();
        x.worst(1, true);
        x.factor();
        due("behind other acts", reported(x).equals("20.000 7-13 L"), true);
        due("none is chosen", x.report(), NONE);
        x.image(false);
        due("an image brings none back", x.sign(0), NONE);
        x.circle(40, 25, 10, false);
        dueReport(x, "20.000 7-13 R");
        x.image(true);
        x.dig(0, 1);
        due("none without a slip", x.report(), NONE);
        x.image(false);
        due("an image with a slip brings none back", x.sign(0), NONE);
    }

    private static void looks() {
        promise = 45;
        SlopeJudge x = told("columns 5 2; ground 5 9 9 1 0 3; rock 5 0 2 1 0 3; anchor 0 0 0 1; anchor 4 0 0 1;");
        x.state(-5);
        int[] want = {5, 2, 0, 17, 0, NONE, NONE, NONE, 0, 1, 0, 9, 16, -5, -10};
        for (int what = 0; what < want.length; what++) {
            due("look(" + what + ")", x.look(what), want[what]);
        }
        due("look(-1)", x.look(-1), -10);
        due("no ground at all", told("columns 4 1; ground 0*5;").look(11), 0);
        due("circle", x.circle(3, 9, 3, true), 3);
        due("look(4)", x.look(4), 3);
        due("look(5)", x.look(5), 0);
        due("look(6)", x.look(6), 3);
        due("look(7)", x.look(7), 1);
    }

    public static void main(String[] args) {
        newObject();
        size();
        tell();
        dig();
        soilQuakeAnchor();
        tape();
        text();
        faults();
        circle();
        points();
        worst();
        undo();
        askedGround();
        slices();
        balance();
        bearing();
        circles();
        tables();
        turned();
        bermed();
        shapes();
        thrusts();
        chances();
        reports();
        images();
        chosenStays();
        looks();
        System.out.println(checks + " answers to promises, " + wrong + " wrong");
        if (wrong != 0) {
            System.exit(1);
        }
    }
}
