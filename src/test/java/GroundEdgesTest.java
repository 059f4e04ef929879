/** The edges that sections 1 and 2 of the terms name: COLUMNS, LAYERS, the SLIP, its SLICES, how they balance. */
public final class GroundEdgesTest {
    private static final int NONE = Edges.NONE;
    private static final int LEAST = Edges.LEAST;
    private static final int MOST = Edges.MOST;

    private static void says(String words) {
        Edges.says(0, words);
    }

    private static void due(String call, long got, long want) {
        Edges.due(call, got, want);
    }

    private static void due(String call, boolean got, boolean want) {
        Edges.due(call, got, want);
    }

    private static void refused(String call, Edges.Call it) {
        Edges.idle(call, Edges::rich, it, 0);
    }

    private static void columns() {
        says("COLUMNS 0 .. n (n 20 at first; 4 .. 40)");
        SlopeJudge x = new SlopeJudge();
        due("look(0) at first", x.look(0), 20);
        due("column(-1, 0)", x.column(-1, 0), -10);
        due("column(0, 0)", x.column(0, 0), 20);
        due("column(20, 0)", x.column(20, 0), 20);
        due("column(21, 0)", x.column(21, 0), -10);
        due("size(4, 4)", x.size(4, 4), true);
        due("look(0)", x.look(0), 4);
        due("column(4, 0)", x.column(4, 0), 20);
        due("column(5, 0)", x.column(5, 0), -10);
        due("size(40, 4)", x.size(40, 4), true);
        due("look(0)", x.look(0), 40);
        due("column(40, 0)", x.column(40, 0), 20);
        due("column(41, 0)", x.column(41, 0), -10);
        for (int n : new int[] {3, 0, -4, 41, LEAST, MOST}) {
            refused("size(" + n + ", 4)", y -> Edges.bit(y.size(n, 4)));
        }

        says("B apart (4 at first; 1 .. 10)");
        SlopeJudge z = new SlopeJudge();
        due("look(1) at first", z.look(1), 4);
        due("size(4, 1)", z.size(4, 1), true);
        due("look(1)", z.look(1), 1);
        due("size(4, 10)", z.size(4, 10), true);
        due("look(1)", z.look(1), 10);
        for (int b : new int[] {0, -1, 11, LEAST, MOST}) {
            refused("size(4, " + b + ")", y -> Edges.bit(y.size(4, b)));
        }
    }

    private static void heights() {
        says("GROUND (20 at first), ROCK (0), WATER (0), all 0 .. 100");
        SlopeJudge x = new SlopeJudge();
        for (int c = 0; c <= 20; c++) {
            due("ground at first", x.column(c, 0), 20);
            due("rock at first", x.column(c, 1), 0);
            due("water at first", x.column(c, 2), 0);
        }
        due("ground 0", x.dig(0, 20), 0);
        due("ground -1", x.dig(0, 1), NONE);
        due("ground 100", x.dig(0, -100), 100);
        due("ground 101", x.dig(0, -1), NONE);
        due("column(0, 0)", x.column(0, 0), 100);
        due("rock 100", x.tell(0, 0, 100), true);
        due("column(0, 1)", x.column(0, 1), 100);
        due("rock 0", x.tell(0, 0, 0), true);
        due("column(0, 1)", x.column(0, 1), 0);
        due("water 100", x.tell(0, 1, 100), true);
        due("column(0, 2)", x.column(0, 2), 100);
        due("water 0", x.tell(0, 1, 0), true);
        due("column(0, 2)", x.column(0, 2), 0);
        for (int v : new int[] {-1, 101, LEAST, MOST}) {
            due("rock " + v, x.tell(0, 0, v), false);
            due("water " + v, x.tell(0, 1, v), false);
        }
        due("column(0, 1)", x.column(0, 1), 0);
        due("column(0, 2)", x.column(0, 2), 0);

        says("ROCK no higher than GROUND");
        SlopeJudge y = new SlopeJudge();
        due("rock 21 under ground 20", y.tell(3, 0, 21), false);
        due("column(3, 1)", y.column(3, 1), 0);
        due("rock 20 under ground 20", y.tell(3, 0, 20), true);
        due("column(3, 1)", y.column(3, 1), 20);
        due("ground 19 over rock 20", y.dig(3, 1), NONE);
        due("column(3, 0)", y.column(3, 0), 20);
        due("filled by 1", y.dig(3, -1), 21);
        due("rock 21 under ground 21", y.tell(3, 0, 21), true);

        says("WATER may be above GROUND: then it is as GROUND");
        SlopeJudge w = new SlopeJudge();
        w.tell(2, 1, 21);
        due("water 21 over ground 20", w.column(2, 2), 20);
        w.tell(2, 1, 20);
        due("water 20 at ground 20", w.column(2, 2), 20);
        w.tell(2, 1, 19);
        due("water 19 under ground 20", w.column(2, 2), 19);
        w.tell(2, 1, 100);
        w.dig(2, 7);
        due("water 100 over ground 13", w.column(2, 2), 13);
        w.dig(2, -17);
        due("water 100 over ground 30", w.column(2, 2), 30);
        SlopeJudge deep = Edges.told("columns 4 1; water 0 100 0*3;");
        Edges.slipped(deep, true, 0, 20, 18, 20);
        due("lift under water 100 over ground 20, base 18", deep.slice(0, 3), 20);
    }

    private static void tops() {
        says("the TOP of LAYER 0 is GROUND");
        SlopeJudge x = new SlopeJudge();
        due("at first", x.column(7, 4), 20);
        x.dig(7, 20);
        due("ground 0", x.column(7, 4), 0);
        x.dig(7, -100);
        due("ground 100", x.column(7, 4), 100);

        says("those of 1 .. 3 are told for each COLUMN (0 .. 100; 0 at first)");
        for (int layer = 1; layer <= 3; layer++) {
            SlopeJudge y = new SlopeJudge();
            due("top at first", y.column(20, 4 + layer), 0);
            y.dig(20, -80);
            for (int ahead = 1; ahead < layer; ahead++) {
                y.tell(20, 2 + ahead, 100);
            }
            due("top 100", y.tell(20, 2 + layer, 100), true);
            due("it counts", y.column(20, 4 + layer), 100);
            due("top 101", y.tell(20, 2 + layer, 101), false);
            due("top -1", y.tell(20, 2 + layer, -1), false);
            due("it stays", y.column(20, 4 + layer), 100);
            due("elsewhere, too", y.column(19, 4 + layer), 0);
            due("top 0", y.tell(20, 2 + layer, 0), true);
            due("it counts", y.column(20, 4 + layer), 0);
        }
        SlopeJudge wide = Edges.told("columns 40 1;");
        for (int layer = 1; layer <= 3; layer++) {
            wide.tell(0, 2 + layer, 20 - layer);
            wide.tell(40, 2 + layer, 10 - layer);
        }
        for (int layer = 1; layer <= 3; layer++) {
            due("top of the first column", wide.column(0, 4 + layer), 20 - layer);
            due("top of the last column", wide.column(40, 4 + layer), 10 - layer);
        }

        says("the TOP of each that counts is no higher than those of the LAYERS ahead (else it is as the least of these)");
        int[][] told = {{15, 18, 11, 15, 15, 11}, {5, 9, 7, 5, 5, 5}, {100, 0, 50, 20, 0, 0}, {21, 20, 21, 20, 20, 20},
            {20, 19, 20, 20, 19, 19}, {9, 9, 9, 9, 9, 9}, {19, 100, 100, 19, 19, 19}, {100, 100, 100, 20, 20, 20}};
        for (int[] t : told) {
            SlopeJudge y = new SlopeJudge();
            y.tell(1, 0, 20);
            for (int layer = 1; layer <= 3; layer++) {
                due("tell top", y.tell(1, 2 + layer, t[layer - 1]), true);
            }
            for (int layer = 1; layer <= 3; layer++) {
                due("top " + layer + " of " + t[0] + ", " + t[1] + ", " + t[2], y.column(1, 4 + layer), t[2 + layer]);
            }
        }
        SlopeJudge y = new SlopeJudge();
        y.tell(1, 3, 100);
        y.dig(1, -5);
        due("as told behind a fill", y.column(1, 5), 25);
        y.dig(1, 15);
        due("as ground behind a dig", y.column(1, 5), 10);
    }

    private static void layers() {
        says("LAYERS 0 .. 3");
        for (int layer = 0; layer <= 3; layer++) {
            SlopeJudge x = new SlopeJudge();
            due("soil(" + layer + ")", x.soil(layer, 7, 8, 9), true);
            for (int other = 0; other <= 3; other++) {
                due("weight", x.layer(other, 0), other == layer ? 7 : 20);
                due("hold", x.layer(other, 1), other == layer ? 8 : 10);
                due("rub", x.layer(other, 2), other == layer ? 9 : 300);
            }
        }
        for (int layer : new int[] {-1, 4, LEAST, MOST}) {
            refused("soil(" + layer + ", 7, 8, 9)", y -> Edges.bit(y.soil(layer, 7, 8, 9)));
        }

        says("WEIGHT 1 .. 30 (20 at first), HOLD 0 .. 200 (10), RUB 0 .. 1500 of a thousand (300)");
        SlopeJudge x = new SlopeJudge();
        due("the least", x.soil(2, 1, 0, 0), true);
        due("weight", x.layer(2, 0), 1);
        due("hold", x.layer(2, 1), 0);
        due("rub", x.layer(2, 2), 0);
        due("the most", x.soil(2, 30, 200, 1500), true);
        due("weight", x.layer(2, 0), 30);
        due("hold", x.layer(2, 1), 200);
        due("rub", x.layer(2, 2), 1500);
        int[][] cannot = {{0, 0, 0}, {-1, 0, 0}, {31, 0, 0}, {LEAST, 0, 0}, {MOST, 0, 0}, {1, -1, 0}, {1, 201, 0},
            {1, LEAST, 0}, {1, MOST, 0}, {1, 0, -1}, {1, 0, 1501}, {1, 0, LEAST}, {1, 0, MOST}};
        for (int[] s : cannot) {
            refused("soil(2, " + s[0] + ", " + s[1] + ", " + s[2] + ")", y -> Edges.bit(y.soil(2, s[0], s[1], s[2])));
        }
    }

    private static void loads() {
        says("LOAD of a COLUMN 0 .. 500 (0)");
        SlopeJudge x = new SlopeJudge();
        due("at first", x.column(20, 3), 0);
        due("load 500", x.tell(20, 2, 500), true);
        due("it is", x.column(20, 3), 500);
        due("load 501", x.tell(20, 2, 501), false);
        due("load -1", x.tell(20, 2, -1), false);
        due("it stays", x.column(20, 3), 500);
        due("load 0", x.tell(20, 2, 0), true);
        due("it is", x.column(20, 3), 0);

        says("QUAKE 0 .. 500 of a thousand (0)");
        due("at first", x.look(2), 0);
        due("quake(500)", x.quake(500), true);
        due("it is", x.look(2), 500);
        for (int q : new int[] {-1, 501, LEAST, MOST}) {
            refused("quake(" + q + ")", y -> Edges.bit(y.quake(q)));
        }
        due("quake(0)", x.quake(0), true);
        due("it is", x.look(2), 0);

        says("ANCHORS 0 .. 5: none at first, or a COLUMN, a height 0 .. 100, a PULL 1 .. 500.");
        due("none at first", x.look(3), 0);
        for (int i = 0; i <= 5; i++) {
            due("anchored(" + i + ", 0) at first", x.anchored(i, 0), NONE);
            due("the least", x.anchor(i, 0, 0, 1), true);
            due("height 0", x.anchored(i, 1), 0);
            due("pull 1", x.anchored(i, 2), 1);
            due("the most", x.anchor(i, 20, 100, 500), true);
            due("column 20", x.anchored(i, 0), 20);
            due("height 100", x.anchored(i, 1), 100);
            due("pull 500", x.anchored(i, 2), 500);
        }
        due("all six", x.look(3), 63);
        int[][] cannot = {{-1, 0, 0, 1}, {6, 0, 0, 1}, {LEAST, 0, 0, 1}, {MOST, 0, 0, 1}, {0, -1, 0, 1}, {0, 5, 0, 1},
            {0, LEAST, 0, 1}, {0, MOST, 0, 1}, {0, 0, -1, 1}, {0, 0, 101, 1}, {0, 0, LEAST, 1}, {0, 0, MOST, 1},
            {2, 0, 0, -1}, {2, 0, 0, 501}, {2, 0, 0, LEAST}, {2, 0, 0, MOST}};
        for (int[] a : cannot) {
            refused("anchor(" + a[0] + ", " + a[1] + ", " + a[2] + ", " + a[3] + ")",
                    y -> Edges.bit(y.anchor(a[0], a[1], a[2], a[3])));
        }
    }

    private static void slip() {
        says("A SLIP (none at first): COLUMNS a to b (a less than b), a BASE for each of these, and whether it goes LEFT or RIGHT.");
        SlopeJudge x = new SlopeJudge();
        due("slices at first", x.look(4), 0);
        for (int what = 5; what <= 7; what++) {
            due("look(" + what + ") at first", x.look(what), NONE);
        }
        for (int c = 0; c <= 20; c++) {
            due("base at first", x.column(c, 8), NONE);
        }
        Edges.slipped(x, false, 3, 20, 18, 20);
        due("a", x.look(5), 3);
        due("b", x.look(6), 5);
        due("right", x.look(7), 0);
        int[] bases = {NONE, 20, 18, 20, NONE};
        for (int c = 2; c <= 6; c++) {
            due("base " + c, x.column(c, 8), bases[c - 2]);
        }

        says("At a and b the BASE is GROUND, between it is below GROUND, no lower than ROCK.");
        SlopeJudge y = Edges.told("columns 6 1; ground 20 21 22 23 24 25 26; rock 0 3*6;");
        y.point(1, 0);
        y.point(2, 21);
        y.point(3, 3);
        y.point(4, 100);
        due("heights at a and b don't matter", y.points(true), 3);
        due("base a", y.column(1, 8), 21);
        due("just below ground", y.column(2, 8), 21);
        due("at rock", y.column(3, 8), 3);
        due("base b", y.column(4, 8), 24);
        y.point(NONE, 0);
        y.point(1, 0);
        y.point(2, 22);
        y.point(3, 3);
        due("at ground", y.points(true), NONE);
        y.point(NONE, 0);
        y.point(1, 0);
        y.point(2, 2);
        y.point(3, 3);
        due("below rock", y.points(true), NONE);
        due("it stays", y.look(4), 3);
    }

    private static void gone(String call, Edges.Call it) {
        SlopeJudge x = Edges.rich();
        due("a slip ahead of " + call, x.look(4), 4);
        due(call, it.on(x) > 0, true);
        due("slices behind " + call, x.look(4), 0);
        for (int what = 5; what <= 7; what++) {
            due("look(" + what + ") behind " + call, x.look(what), NONE);
        }
        due("factor() behind " + call, x.factor(), NONE);
        due("column(1, 8) behind " + call, x.column(1, 8), NONE);
    }

    private static void stays(String call, Edges.Call it) {
        SlopeJudge x = Edges.rich();
        due(call, it.on(x) >= 0, true);
        due("slices behind " + call, x.look(4), 4);
        due("column(1, 8) behind " + call, x.column(1, 8), 17);
        due("left behind " + call, x.look(7), 1);
    }

    private static void noSlipThen() {
        says("Whatever is told of GROUND, ROCK, n, a TEXT, too: there is none then.");
        gone("dig(0, 1)", x -> x.dig(0, 1));
        gone("dig(4, -1)", x -> x.dig(4, -1));
        gone("tell rock", x -> Edges.bit(x.tell(2, 0, 5)));
        gone("tell rock as it is", x -> Edges.bit(x.tell(0, 0, 0)));
        gone("size(4, 3), as it is", x -> Edges.bit(x.size(4, 3)));
        gone("text()", SlopeJudge::text);
        stays("tell water", x -> Edges.bit(x.tell(0, 1, 50)));
        stays("tell load", x -> Edges.bit(x.tell(0, 2, 50)));
        stays("tell top", x -> Edges.bit(x.tell(0, 3, 50)));
        stays("soil", x -> Edges.bit(x.soil(0, 1, 1, 1)));
        stays("quake", x -> Edges.bit(x.quake(1)));
        stays("anchor", x -> Edges.bit(x.anchor(0, 0, 1, 1)));
        stays("feed", x -> x.feed(0, 0, 0, 0, 0));
        stays("end", x -> Edges.bit(x.end(0)));
        stays("point", x -> x.point(NONE, 0));
        stays("state", x -> x.state(1) + 77);
        stays("chance", x -> x.chance(3, 3, 3));
        stays("the image taken", x -> Edges.bit(x.image(true)));
        stays("a text with a fault", x -> x.end(1) ? x.text() + 1 : NONE);
        stays("rock that can't be", x -> Edges.bit(x.tell(2, 0, 23)));
        stays("a dig that can't be", x -> x.dig(2, 0) + 1);
        stays("a size that can't be", x -> Edges.bit(x.size(3, 1)));
        stays("tables", x -> x.tables(2, true, 0));
        stays("boxes", x -> x.boxes(6, 30, 12, 8, true, 4));
        stays("dug", x -> x.dug(2, 1, 6, 30, 12, true));
        stays("deep", x -> x.deep(2, 1, 6, 30, 12, true));
    }

    /** WEIGHTS 1, 2, 4, 8 of LAYERS down from 20, 15, 10, 5. */
    private static SlopeJudge striped(String more) {
        return Edges.told("columns 4 1; top 1 15*5; top 2 10*5; top 3 5*5; soil 0 1 10 300; soil 1 2 20 400; soil 2 4 30 500;"
                + "soil 3 8 40 600;" + more);
    }

    private static long weightDownTo(SlopeJudge x, int base) {
        Edges.slipped(x, true, 0, 20, base, 20);
        return x.slice(0, 2);
    }

    private static void slices() {
        says("A SLICE is between two COLUMNS x, x + 1 of a SLIP.");
        for (int b = 4; b <= 6; b++) {
            SlopeJudge y = Edges.told("columns 6 1;");
            y.point(3, 19);
            y.point(b, 19);
            due("slices from 3 to " + b, y.points(true), b - 3);
            for (int i = 0; i < b - 3; i++) {
                due("x of slice " + i, y.slice(i, 0), 3 + i);
            }
            due("none behind the last", y.slice(b - 3, 0), Edges.NO_SLICE);
        }

        says("RISE: BASE at x + 1 less that at x; of one that goes RIGHT turned round (its sign).");
        SlopeJudge x = Edges.told("columns 4 1; ground 20 20 20 23 23;");
        Edges.slipped(x, true, 0, 20, 18, 18, 23);
        due("left, down", x.slice(0, 1), -2);
        due("left, level", x.slice(1, 1), 0);
        due("left, up", x.slice(2, 1), 5);
        Edges.slipped(x, false, 0, 20, 18, 18, 23);
        due("right, down", x.slice(0, 1), 2);
        due("right, level", x.slice(1, 1), 0);
        due("right, up", x.slice(2, 1), -5);

        says("THICK of a LAYER at a COLUMN: how much of what is from BASE to GROUND lies from the TOP of the next LAYER to its own (that of LAYER 3 goes down without end).");
        int[][] down = {{19, 1}, {16, 4}, {15, 5}, {14, 7}, {11, 13}, {10, 15}, {9, 19}, {6, 31}, {5, 35}, {4, 43}, {1, 67}, {0, 75}};
        SlopeJudge s = striped("");
        for (int[] d : down) {
            due("weight down to " + d[0], weightDownTo(s, d[0]), d[1]);
        }
        SlopeJudge over = Edges.told("columns 4 1; top 1 100*5; top 2 0*5; top 3 50*5; soil 0 1 1 1; soil 1 2 1 1; soil 2 4 1 1; soil 3 8 1 1;");
        due("layer 1 from above ground on", weightDownTo(over, 19), 2);
        due("layer 1 down to 0", weightDownTo(over, 0), 40);
        SlopeJudge last = Edges.told("columns 4 1; top 1 100*5; top 2 100*5; top 3 100*5; soil 3 8 1 1;");
        due("layer 3 alone", weightDownTo(last, 0), 160);
        SlopeJudge crossed = Edges.told("columns 4 1; top 1 10*5; top 2 15*5; top 3 12*5; soil 0 1 1 1; soil 1 2 1 1; soil 2 4 1 1; soil 3 8 1 1;");
        due("tops as the least ahead", weightDownTo(crossed, 9), 10 + 8);

        says("WEIGHT (twice it, as all that follows): B times all LAYERS' WEIGHT times THICK at both COLUMNS together, and B times LOADS of both COLUMNS.");
        SlopeJudge l = Edges.told("columns 4 10; load 500 499 1 0 0; soil 0 30 1 1; soil 3 30 1 1;");
        Edges.slipped(l, true, 0, 20, 0, 19, 20);
        due("both columns", l.slice(0, 2), 10 * (30 * 20 + 500 + 499));
        due("both columns", l.slice(1, 2), 10 * (30 * 20 + 30 + 499 + 1));
        due("both columns", l.slice(2, 2), 10 * (30 + 1));
    }

    private static void water() {
        says("HEAD: WATER less BASE at both COLUMNS, each 0 at least; LIFT: 10 times B times both HEADS together.");
        SlopeJudge x = Edges.told("columns 4 3; water 30 12 12 10 11;");
        Edges.slipped(x, true, 0, 20, 14, 10, 10, 20);
        due("above ground, and below base", x.slice(0, 3), 0);
        due("below base is no less than 0", x.slice(1, 3), 10 * 3 * 2);
        due("at base", x.slice(2, 3), 10 * 3 * 2);
        due("none", x.slice(3, 3), 0);
        x.tell(3, 1, 11);
        due("both together", x.slice(2, 3), 10 * 3 * 3);

        says("PRESS: WEIGHT less LIFT, 0 at least.");
        SlopeJudge y = Edges.told("columns 4 1; water 0 11 0*3; soil 0 1 0 7; soil 3 1 0 7;");
        Edges.slipped(y, true, 0, 20, 10, 20);
        due("weight 10, lift 10", y.slice(0, 4), 0);
        y.tell(1, 2, 1);
        due("weight 11, lift 10", y.slice(0, 4), 1);
        y.tell(1, 1, 12);
        due("weight 11, lift 20", y.slice(0, 4), 0);
        due("strength without press", y.slice(0, 6), 0);
        due("no rubs", y.rubs(0, 20000), 0);

        says("Its LAYER: the last one whose TOPS at both COLUMNS together are higher than BASES at both together (0, if there is none).");
        SlopeJudge s = striped("");
        int[][] bases = {{16, 14, 0}, {15, 14, 1}, {14, 14, 1}, {10, 10, 1}, {10, 9, 2}, {6, 4, 2}, {6, 3, 3}, {0, 0, 3}, {19, 11, 0},
            {19, 10, 1}, {5, 5, 2}, {5, 4, 3}};
        for (int[] b : bases) {
            Edges.slipped(s, true, 0, 20, b[0], b[1], 20);
            due("layer from " + b[0] + " to " + b[1], s.slice(1, 5), b[2]);
            due("its strength", s.slice(1, 6), 2000 * (10 + 10 * b[2]) + s.slice(1, 4) * (300 + 100 * b[2]));
        }
        SlopeJudge same = Edges.told("columns 4 1; top 1 15*5; top 2 15*5;");
        Edges.slipped(same, true, 0, 20, 14, 14, 20);
        due("the last of two alike", same.slice(1, 5), 2);
        SlopeJudge high = Edges.told("columns 4 1; top 1 100*5; top 2 100*5; top 3 100*5; soil 0 20 7 0;");
        Edges.slipped(high, true, 1, 0, 0);
        due("none is higher", high.slice(0, 5), 0);
        due("its strength", high.slice(0, 6), 14000);
        SlopeJudge uneven = Edges.told("columns 4 1; top 1 20 11 19 20 20;");
        Edges.slipped(uneven, true, 0, 20, 14, 15, 20);
        due("11 and 19 over 14 and 15", uneven.slice(1, 5), 1);
        Edges.slipped(uneven, true, 0, 20, 15, 15, 20);
        due("11 and 19 over 15 and 15", uneven.slice(1, 5), 0);
    }

    private static void balance() {
        says("STRENGTH: 2000 times HOLD times B, and PRESS times RUB (those of its LAYER).");
        SlopeJudge x = Edges.told("columns 4 10; ground 100*5; load 500*5; soil 3 30 200 1500; top 1 100*5; top 2 100*5; top 3 100*5; quake 500;");
        Edges.slipped(x, true, 0, 0, 1, 1, 100);
        long weight = 10 * (2 * 30 * 99 + 1000);
        due("weight", x.slice(1, 2), weight);
        due("the most", x.slice(1, 6), 2000 * 200 * 10 + weight * 1500);

        says("PUSH: WEIGHT times (1000 times RISE and QUAKE times B).");
        due("level: quake alone", x.slice(1, 7), weight * 5000);
        due("down", x.slice(0, 7), x.slice(0, 2) * (-99000 + 5000));
        due("up", x.slice(2, 7), x.slice(2, 2) * (99000 + 5000));
        x.points(false);
        due("quake pushes right, too", x.slice(1, 7), weight * 5000);
        due("turned round", x.slice(0, 7), x.slice(0, 2) * (99000 + 5000));
        x.quake(0);
        due("level, no quake", x.slice(1, 7), 0);

        says("RUBS at k: let d be B times k and RISE times RUB: is d 0 or less, it is FAST; else: STRENGTH times (squares of B and RISE together) times k by d, downwards.");
        SlopeJudge f = Edges.told("columns 4 1; soil 0 1 0 500; load 0 5 0*3;");
        Edges.slipped(f, true, 0, 20, 18, 20);
        // STRENGTH: 7 times 500; d: k less 1000
        due("d -999", f.rubs(0, 1), NONE);
        due("d -1", f.rubs(0, 999), NONE);
        due("d 0", f.rubs(0, 1000), NONE);
        due("d 1", f.rubs(0, 1001), 3500L * 5 * 1001);
        due("d 2", f.rubs(0, 1002), 3500L * 5 * 1002 / 2);
        due("up is never fast", f.rubs(1, 1), 3500L * 5 / 1001);
        due("downwards", f.rubs(1, 3), 3500L * 5 * 3 / 1003);
        due("k 20000", f.rubs(1, 20000), 3500L * 5 * 20000 / 21000);
        due("nothing rubs: never fast", Edges.slipped(Edges.told("columns 4 1; soil 0 1 0 0;"), true, 0, 20, 18, 20).rubs(0, 1), 0);

        says("PULLS: of all ANCHORS that count, each 2000 times B times its PULL; one counts if its COLUMN is from a on, ahead of b, and its height is above BASE there.");
        anchors();

        says("A SLIP STANDS at k (1 .. 20000), if a SLICE is FAST, or 1000 times all RUBS at k are no less than k times (all PUSHES less PULLS).");
        stands();

        says("FACTOR (in thousandths): low is 0, high 20001: as long as they are more than 1 apart, of the middle (downwards) m: STANDS at m: low is m, else high is m; FACTOR is low then.");
        factor();
    }

    private static void anchors() {
        int[][] told = {{1, 21, 0}, {1, 100, 0}, {2, 20, 0}, {2, 21, 1}, {3, 14, 0}, {3, 15, 1}, {3, 99, 1}, {4, 13, 0}, {4, 14, 1},
            {5, 21, 0}, {5, 100, 0}, {6, 100, 0}};
        for (int[] t : told) {
            SlopeJudge x = Edges.told("columns 6 3;");
            x.anchor(4, t[0], t[1], 5);
            Edges.slipped(x, true, 2, 20, 14, 13, 20);
            due("an anchor at " + t[0] + ", " + t[1] + " counts", x.anchored(4, 3), t[2]);
            due("pulls of it", x.sum(1), t[2] * 2000 * 3 * 5);
            x.points(false);
            due("to the right, too", x.anchored(4, 3), t[2]);
            due("pulls of it", x.sum(1), t[2] * 2000 * 3 * 5);
        }
        SlopeJudge x = Edges.told("columns 6 10;");
        Edges.slipped(x, true, 2, 20, 14, 13, 20);
        due("no anchor", x.sum(1), 0);
        x.anchor(5, 2, 21, 1);
        due("a pull of 1", x.sum(1), 20000);
        due("a pull of 1 counts", x.anchored(5, 3), 1);
        due("a pull of 1 is told", x.look(3), 32);
        x.anchor(5, 2, 21, 0);
        for (int i = 0; i <= 5; i++) {
            x.anchor(i, 2, 100, 500);
            due("pulls of " + (i + 1), x.sum(1), (i + 1) * 10000000L);
        }
        x.anchor(0, 2, 100, 0);
        due("pulls without one", x.sum(1), 50000000);
    }

    private static void stands() {
        // one SLICE: RISE 1, WEIGHT 100, RUB 500: 50000 times 2 times k by (k and 500) against 100 times k
        SlopeJudge x = Edges.told("columns 4 1; ground 1*2 2*3; load 0 100 0*3; soil 0 1 0 500;");
        Edges.slipped(x, true, 1, 0, 0);
        due("more", x.stands(499), 1);
        due("no less", x.stands(500), 1);
        due("less", x.stands(501), 0);
        due("k 1", x.stands(1), 1);
        due("k 20000", x.stands(20000), 0);
        x.anchor(0, 1, 2, 49);
        due("pushes less pulls: 2000 are left", x.stands(20000), 1);
        x.soil(0, 1, 0, 0);
        due("2000 without rubs", x.stands(1), 0);
        x.anchor(0, 1, 2, 50);
        due("0 without rubs", x.stands(1), 1);
        due("0 without rubs", x.stands(20000), 1);
        x.anchor(0, 1, 2, 51);
        due("below 0 without rubs", x.stands(20000), 1);
        SlopeJudge f = Edges.told("columns 4 1; soil 0 1 0 500; load 0 5 0 500 0; quake 500; top 1 0 17 20*3; soil 1 1 0 0;");
        Edges.slipped(f, true, 0, 20, 18, 18, 20);
        due("the first is fast", f.rubs(0, 1000), NONE);
        due("no other rubs", f.rubs(1, 1000) + f.rubs(2, 1000), 0);
        due("it stands", f.stands(1000), 1);
        SlopeJudge last = Edges.told("columns 4 1; soil 0 1 0 500; load 0 500 0*3; quake 500; top 1 20 20 17 0 0; soil 1 1 0 0;");
        Edges.slipped(last, false, 0, 20, 18, 18, 20);
        due("the last is fast", last.rubs(2, 1000), NONE);
        due("no other rubs", last.rubs(0, 1000) + last.rubs(1, 1000), 0);
        due("it stands", last.stands(1000), 1);
        due("the last is not fast", last.rubs(2, 1001) > 0, true);
        SlopeJudge one = Edges.slipped(Edges.told("columns 4 1; load 1 0*4; soil 0 1 0 0; quake 1;"), true, 0, 0, 0);
        due("a push of 1", one.sum(0), 1);
        due("no rubs against it", one.stands(1), 0);
        // STRENGTH times 9901 times 14761 by 1: a thousandfold it does not fit a long
        SlopeJudge wide = Edges.told("columns 4 10; ground 100*5; load 500*5; soil 0 30 200 1491; quake 500;");
        Edges.slipped(wide, true, 0, 100, 1, 100);
        due("great rubs", wide.rubs(0, 14761), (4000000L + 39700L * 1491) * 9901 * 14761);
        due("great rubs are no less", wide.stands(14761), 1);
    }

    private static void factor() {
        SlopeJudge x = Edges.told("columns 4 1; ground 1*2 2*3; load 0 100 0*3; soil 0 1 0 500;");
        Edges.slipped(x, true, 1, 0, 0);
        due("between", x.factor(), 500);
        x.soil(0, 1, 0, 0);
        due("not even at 1", x.factor(), 0);
        x.points(false);
        due("at 20000", x.factor(), 20000);
        SlopeJudge level = Edges.told("columns 4 1; load 500 0*4; soil 0 1 1 0; quake 1;");
        Edges.slipped(level, true, 0, 0, 0);
        // RUBS 2000, PUSH LOAD times QUAKE
        int[][] pushed = {{100, 1, 20000}, {101, 1, 19801}, {200, 1, 10000}, {400, 500, 10}, {500, 500, 8}};
        for (int[] p : pushed) {
            level.tell(0, 2, p[0]);
            level.quake(p[1]);
            due("load " + p[0] + ", quake " + p[1], level.factor(), p[2]);
        }
        level.soil(0, 1, 0, 1);
        // RUBS are LOAD alone
        level.quake(500);
        due("2", level.factor(), 2);
        // RUBS 6 times k by (k and 3), downwards, against 300, then 650 times k: not all k up to FACTOR stand, nor are all others less
        SlopeJudge holes = Edges.told("columns 4 1; ground 10 12 10*3; top 1 10 12 0*3; soil 0 1 0 0; soil 1 1 0 3; quake 150;");
        Edges.slipped(holes, true, 0, 10, 11, 10);
        due("rubs at 15", holes.rubs(0, 15), 5);
        due("stands(13)", holes.stands(13), 1);
        due("stands(14)", holes.stands(14), 0);
        due("stands(15)", holes.stands(15), 1);
        due("15 is not asked for", holes.factor(), 13);
        holes.quake(325);
        due("stands(4)", holes.stands(4), 1);
        due("stands(5)", holes.stands(5), 0);
        due("stands(6)", holes.stands(6), 1);
        due("stands(7)", holes.stands(7), 0);
        due("5 is not asked for", holes.factor(), 6);
    }

    public static void main(String[] args) {
        columns();
        heights();
        tops();
        layers();
        loads();
        slip();
        noSlipThen();
        slices();
        water();
        balance();
        Edges.end();
    }
}
