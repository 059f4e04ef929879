/** The edges that section 3 of the terms names: CIRCLES, POINTS, BOXES, TABLES, and what a SLIP bears. */
public final class SlipEdgesTest {
    private static final int NONE = Edges.NONE;
    private static final int LEAST = Edges.LEAST;
    private static final int MOST = Edges.MOST;
    /** COLUMNS a, 1, b; both SLICES level, WEIGHT 200 each, PRESS 200 less 10 for each metre of WATER above 10. */
    private static final String LEVEL = "columns 4 1; ground 10 20 10*3; soil 0 20 0 100; quake 100;";
    private static final String SLOPE = "columns 10 2; ground 10*4 12 14 16 18*4; soil 0 20 2 200; water 5*11;";

    private static void says(String words) {
        Edges.says(0, words);
    }

    private static void due(String call, long got, long want) {
        Edges.due(call, got, want);
    }

    private static void due(String call, boolean got, boolean want) {
        Edges.due(call, got, want);
    }

    private static SlopeJudge level(String more) {
        return Edges.slipped(Edges.told(LEVEL + more), true, 0, 10, 10, 10);
    }

    /** An object is asked no more than 512 times, so that many questions take several. */
    private static final class Asked {
        private final Edges.Maker maker;
        private SlopeJudge x;
        private int calls;

        Asked(Edges.Maker maker) {
            this.maker = maker;
        }

        SlopeJudge next() {
            if (calls % 300 == 0) {
                x = maker.make();
            }
            calls++;
            return x;
        }
    }

    private static void circles() {
        says("CIRCLE with a middle x, y (-50 .. 450 both, as B times COLUMNS, heights) and a radius r (1 .. 500), that goes LEFT or RIGHT");
        String hill = "columns 40 10; ground 0 20*39 0;";
        due("x -50", Edges.told(hill).circle(-50, 20, 70, true), 2);
        due("x 450", Edges.told(hill).circle(450, 20, 70, true), 2);
        // all COLUMNS up to 60 off; up to 88 off the root is 431 at least
        due("y -50", Edges.told(hill).circle(200, -50, 60, true), 13 + 1);
        due("y 450", Edges.told(hill).circle(200, 450, 440, true), 17 + 1);
        due("r 1", new SlopeJudge().circle(40, 20, 1, true), 2);
        due("r 500", Edges.told("columns 40 1; ground 0 20*39 0;").circle(20, 450, 500, true), 40);
        int[][] cannot = {{-51, 20, 70}, {451, 20, 70}, {LEAST, 20, 70}, {MOST, 20, 70}, {200, -51, 70}, {200, 451, 441},
            {200, LEAST, 70}, {200, MOST, 70}, {200, 20, 0}, {200, 20, -1}, {20, 450, 501}, {200, 20, LEAST}, {200, 20, MOST}};
        for (int[] c : cannot) {
            SlopeJudge x = Edges.told(hill);
            due("circle(" + c[0] + ", " + c[1] + ", " + c[2] + ")", x.circle(c[0], c[1], c[2], true), NONE);
            due("no slip", x.look(4), 0);
            due("tried", x.tried(c[0], c[1], c[2], true), NONE);
        }
        SlopeJudge x = new SlopeJudge();
        x.circle(40, 25, 10, true);
        due("left", x.look(7), 1);
        x.circle(40, 25, 10, false);
        due("right", x.look(7), 0);

        says("ARC at a COLUMN c: y less the whole root (downwards) of r squared less (B c less x) squared, if that is not below 0; none else.");
        x.circle(40, 19, 8, true);
        due("the root of 0", x.column(8, 8), 19);
        due("a: below 0", x.look(5), 7);
        due("the root of 0", x.column(12, 8), 19);
        due("b: below 0", x.look(6), 13);
        due("the root of 48", x.column(9, 8), 13);
        due("the root of 64", x.column(10, 8), 11);
        x.circle(39, 25, 10, true);
        due("the root of 99", x.column(10, 8), 16);
        SlopeJudge rocky = Edges.told("columns 20 4; rock 20*9 0*12;");
        due("circle(-10, 25, 51)", rocky.circle(-10, 25, 51, true), 3);
        due("the root of 485", rocky.column(9, 8), 3);
        due("the root of 101", rocky.column(10, 8), 15);
        SlopeJudge flat = Edges.told("columns 40 1; ground 0 20*39 0;");
        due("circle(20, 450, 450)", flat.circle(20, 450, 450, true), 40);
        due("the root of 202500", flat.column(20, 8), 0);
        due("the root of 202499", flat.column(19, 8), 1);
        due("the root of 202139", flat.column(1, 8), 1);
        SlopeJudge roots = Edges.told("columns 4 10; ground 0 20*3 0;");
        for (int r = 1; r <= 440; r++) {
            roots.circle(20, r + 10, r, true);
            due("the root of " + r * r, roots.column(2, 8), 10);
        }

        says("CUT: COLUMNS that have an ARC, it (ROCK, if that is higher) being below GROUND: the first row of such side by side; a: the COLUMN ahead, b: the one behind; BASES: ARC (ROCK, if that is higher), at a and b GROUND.");
        SlopeJudge y = new SlopeJudge();
        due("an arc at ground", y.circle(40, 30, 10, true), NONE);
        due("an arc just below ground", y.circle(40, 29, 10, true), 2);
        due("its base", y.column(10, 8), 19);
        y.tell(10, 0, 18);
        due("rock below the arc", y.circle(40, 29, 10, true) * 100 + y.column(10, 8), 219);
        y.tell(10, 0, 19);
        due("rock at the arc", y.circle(40, 29, 10, true) * 100 + y.column(10, 8), 219);
        due("rock above the arc", y.circle(40, 25, 10, true) * 100 + y.column(10, 8), 619);
        due("beside it the arc", y.column(9, 8), 16);
        due("at a ground", y.column(7, 8), 20);
        due("at b ground", y.column(13, 8), 20);
        y.tell(10, 0, 20);
        due("rock at ground ends the first row", y.circle(40, 25, 10, true) * 10000 + y.look(5) * 100 + y.look(6), 30710);
        due("it has no base behind", y.column(11, 8), NONE);
        SlopeJudge two = Edges.told("columns 8 4; ground 0 20 0 20 0 20*4;");
        due("the first of two rows", two.circle(16, 20, 16, true) * 100 + two.look(5), 200);

        says("None, if there is no such row, or no COLUMN ahead of it, or behind.");
        SlopeJudge z = new SlopeJudge();
        due("no row", z.circle(40, 60, 10, true), NONE);
        due("a row from 1 on", z.circle(12, 25, 10, true) * 100 + z.look(5), 600);
        due("a row from 0 on", z.circle(8, 25, 10, true), NONE);
        due("a row up to 19", z.circle(68, 25, 10, false) * 100 + z.look(6), 620);
        due("a row up to 20", z.circle(72, 25, 10, false), NONE);
        due("a row of all", z.circle(40, 0, 400, true), NONE);
        due("between two columns", z.circle(42, 20, 1, true), NONE);
        SlopeJudge second = Edges.told("columns 8 4; ground 20 0 20 20 0 20*4;");
        due("the first row from 0 on", second.circle(10, 22, 12, true), NONE);
        due("it stays", z.look(6), 20);
    }

    private static SlopeJudge pointed(String text, int... columnsAndHeights) {
        SlopeJudge x = Edges.told(text);
        for (int i = 0; i < columnsAndHeights.length; i += 2) {
            x.point(columnsAndHeights[i], columnsAndHeights[i + 1]);
        }
        return x;
    }

    private static void points() {
        says("POINTS: up to 12 (a COLUMN, a height), COLUMNS rising");
        SlopeJudge x = new SlopeJudge();
        for (int c = 0; c < 12; c++) {
            due("point " + c, x.point(c, 19), c + 1);
        }
        due("the 13th", x.point(12, 19), NONE);
        due("look(8)", x.look(8), 12);
        due("points()", x.points(true), 11);
        SlopeJudge y = new SlopeJudge();
        y.point(5, 19);
        due("the same column", y.point(5, 18), NONE);
        due("a column ahead", y.point(4, 18), NONE);
        due("look(8)", y.look(8), 1);
        due("the next column", y.point(6, 18), 2);

        says("the SLIP of them: from the first one's COLUMN to the last one's: at each its height, between two of them y of the first and (the difference times how far it is from the first) by how far both are apart, downwards; at a, b GROUND instead");
        SlopeJudge z = pointed("columns 20 4;", 0, 19, 5, 12, 6, 12, 10, 15);
        due("points()", z.points(true), 10);
        // 19 less 7/5, 14/5, 21/5, 28/5; 12 and 3/4, 6/4, 9/4
        int[] bases = {20, 17, 16, 14, 13, 12, 12, 12, 13, 14, 20, NONE};
        for (int c = 0; c < bases.length; c++) {
            due("base " + c, z.column(c, 8), bases[c]);
        }
        SlopeJudge even = pointed("columns 20 4;", 2, 9, 4, 5, 6, 9);
        even.points(false);
        due("a whole part, downhill", even.column(3, 8), 7);
        due("a whole part, uphill", even.column(5, 8), 7);
        due("a", even.look(5), 2);
        due("b", even.look(6), 6);
        SlopeJudge wide = pointed("columns 40 1; ground 20*40 30;", 0, 19, 40, 19);
        due("from 0 to 40", wide.points(true), 40);
        due("base 0", wide.column(0, 8), 20);
        due("base 39", wide.column(39, 8), 19);
        due("base 40", wide.column(40, 8), 30);

        says("is it at a COLUMN between not below GROUND, or below ROCK: none can be.");
        due("at ground between", pointed("columns 4 1;", 0, 0, 1, 20, 2, 0).points(true), NONE);
        due("above ground between", pointed("columns 4 1;", 0, 0, 1, 21, 2, 0).points(true), NONE);
        due("just below ground", pointed("columns 4 1;", 0, 0, 1, 19, 2, 0).points(true), 2);
        due("at ground on the line", pointed("columns 4 1;", 0, 20, 4, 20).points(true), NONE);
        due("below ground on the line, downwards", pointed("columns 4 1;", 0, 20, 4, 19).points(true), 4);
        due("at rock", pointed("columns 4 1; rock 0 7 0*3;", 0, 0, 1, 7, 2, 0).points(true), 2);
        due("below rock", pointed("columns 4 1; rock 0 7 0*3;", 0, 0, 1, 6, 2, 0).points(true), NONE);
        due("below rock on the line", pointed("columns 4 1; rock 0 7 0*3;", 0, 7, 4, 6).points(true), NONE);
        due("below rock at a, above ground at b", pointed("columns 4 1; rock 20 0*4;", 0, 0, 1, 5, 2, 100).points(true), 2);
    }

    /** BOXES by tried() alone: x, y, r, FACTOR, rounds; null if there is none. */
    private static int[] boxed(Edges.Maker maker, int x, int y, int r, int s, boolean left) {
        Asked asked = new Asked(maker);
        int[] hand = {x, y, r, asked.next().tried(x, y, r, left), 0};
        while (s > 0 && hand[4] < 60) {
            int[] best = null;
            for (int dx = -s; dx <= s; dx += s) {
                for (int dy = -s; dy <= s; dy += s) {
                    for (int dr = -s; dr <= s; dr += s) {
                        int f = asked.next().tried(hand[0] + dx, hand[1] + dy, hand[2] + dr, left);
                        if (f != NONE && (best == null || f < best[3])) {
                            best = new int[] {hand[0] + dx, hand[1] + dy, hand[2] + dr, f, 0};
                        }
                    }
                }
            }
            int rounds = hand[4] + 1;
            if (best != null && (hand[3] == NONE || best[3] < hand[3])) {
                hand = best;
            } else {
                s /= 2;
            }
            hand[4] = rounds;
        }
        return hand[3] == NONE ? null : hand;
    }

    private static void dueBoxes(String text, int x, int y, int r, int s, boolean left) {
        int[] want = boxed(() -> Edges.told(text), x, y, r, s, left);
        SlopeJudge judge = Edges.told(text);
        int[] place = {3, 0, 1, 2, 4};
        for (int what = 0; what < 5; what++) {
            due("boxes(" + x + ", " + y + ", " + r + ", " + s + ", " + left + ", " + what + ") of " + text,
                    judge.boxes(x, y, r, s, left, what), want == null ? -100 : want[place[what]]);
        }
    }

    private static void boxes() {
        String firm = "columns 20 4; soil 0 1 200 300;";
        says("BOXES: from a CIRCLE (x, y, r) with a STEP s (1 .. 64)");
        SlopeJudge x = Edges.told(firm);
        due("s 0", x.boxes(40, 25, 10, 0, true, 0), -100);
        due("s -1", x.boxes(40, 25, 10, -1, true, 0), -100);
        due("s 65", x.boxes(40, 25, 10, 65, true, 0), -100);
        due("s 1", x.boxes(40, 25, 10, 1, true, 0), 20000);
        due("s 64", x.boxes(40, 25, 10, 64, true, 0), 20000);

        says("of all 27 that are -s, 0 or s off in x, y, r, that can be told and CUT: the one with the least FACTOR (of several the least off in x, then y, then r: -s first)");
        // all that CUT have 20000; of these (39, 29, 11) comes first, (40, 29, 10) would by r, then x
        due("x: -s first", x.boxes(40, 30, 10, 1, true, 1), 39);
        due("y: -s first", x.boxes(40, 30, 10, 1, true, 2), 29);
        due("r: -s first", x.boxes(40, 30, 10, 1, true, 3), 11);
        // lower ones reach COLUMN 0, so that they don't CUT: (x, y, r) come in the order of x, not of y
        for (int cy = 20; cy < 34; cy++) {
            dueBoxes(firm, 14, cy, 12, 3, true);
            dueBoxes(firm, 14, cy, 12, 6, false);
            dueBoxes(SLOPE, 14, cy, 12, 5, true);
            dueBoxes(SLOPE, 2, cy, 12, 2, true);
        }
        String hill = "columns 40 10; ground 0 20*20 40*19 0; soil 0 20 1 200;";
        dueBoxes(hill, 450, 20, 70, 1, true);
        dueBoxes(hill, -50, 20, 70, 1, true);
        dueBoxes(hill, 200, -50, 60, 1, true);
        dueBoxes(hill, 200, 450, 440, 4, true);
        dueBoxes(hill, 200, 30, 1, 1, true);
        dueBoxes(hill, 200, 450, 440, 64, true);
        dueBoxes("columns 40 1; ground 0 20*20 40*19 0; soil 0 20 1 200;", 20, 450, 500, 2, true);

        says("is it lower than that of the one at hand (or has that none): it is at hand then; else s is halved (downwards); until s is 0, or 60 such rounds.");
        int[][] rounds = {{1, 1}, {2, 2}, {3, 2}, {4, 3}, {5, 3}, {7, 3}, {8, 4}, {63, 6}, {64, 7}};
        for (int[] r : rounds) {
            due("none is lower, s " + r[0], x.boxes(40, 25, 10, r[0], true, 4), r[1]);
            due("it stays at hand", x.boxes(40, 25, 10, r[0], true, 1), 40);
        }
        due("the one at hand has none", x.boxes(40, 30, 10, 1, true, 4), 2);
        due("it has one then", x.boxes(40, 30, 10, 1, true, 0), 20000);
        dueBoxes(SLOPE, 10, 24, 12, 8, true);
        dueBoxes(SLOPE, 10, 60, 12, 64, true);
        String far = "columns 40 7; soil 3 20 36 384; ground 20*3 24 28 32 36 40 44 48 52 56 60 64 68 72 76 80 84 88 92 96 100*19;";
        due("60 rounds", Edges.told(far).boxes(16, 403, 364, 1, true, 4), 60);
        dueBoxes(far, 16, 403, 364, 1, true);

        says("None, if none of them CUTS.");
        for (int what = 0; what < 5; what++) {
            due("boxes far away", x.boxes(400, 400, 1, 1, true, what), -100);
            due("boxes too high", x.boxes(40, 60, 10, 1, true, what), -100);
            due("boxes below all", x.boxes(40, -50, 400, 1, true, what), -100);
        }
        // none of the 27 of the first round CUTS: those with STEP 64 are off the ground, or have COLUMN 0 in them
        int[] later = {20000, 31, -11, 1, 8};
        for (int what = 0; what < 5; what++) {
            due("boxes that cut in the second round", Edges.told("columns 4 10;").boxes(-1, 21, 1, 64, true, what), later[what]);
        }
        dueBoxes("columns 4 10;", -1, 21, 1, 64, true);
    }

    private static void dueTables(String text, int t, boolean left, int... kAndAAndBAndBases) {
        SlopeJudge x = Edges.told(text);
        int a = kAndAAndBAndBases[1];
        int b = kAndAAndBAndBases[2];
        for (int what = 0; what < 3; what++) {
            due("tables(" + t + ", " + left + ", " + what + ") of " + text, x.tables(t, left, what), kAndAAndBAndBases[what]);
        }
        for (int c = 0; c <= 40; c++) {
            int want = a == NONE || c < a || c > b ? NONE : kAndAAndBAndBases[3 + c - a];
            due("tables(" + t + ", " + left + ", " + (10 + c) + ") of " + text, x.tables(t, left, 10 + c), want);
        }
        due("worst(" + t + ", " + left + ") of " + text, x.worst(t, left), a == NONE ? NONE : b - a);
        for (int c = a; a != NONE && c <= b; c++) {
            due("base " + c + " of the worst", x.column(c, 8), kAndAAndBAndBases[3 + c - a]);
        }
    }

    private static void tables() {
        // COLUMNS 1 and 2 may be dug by 2; 1 and 1: RUBS 100000, PUSH 40000; 1 and 2: RUBS 140000, PUSH 60000
        String soft = "columns 4 1; rock 20 18 18 20 20; top 1 0 19 19 0 0; top 2 0 18 19 0 0; soil 0 20 10 0; soil 1 20 0 0;"
                + "soil 2 20 200 0; quake 500;";
        says("TABLES for LEFT or RIGHT, with a bound t (1 .. 12): of all SLIPS whose BASES side by side differ by t at most (at a, b too)");
        dueTables(soft, 1, true, 2500, 0, 3, 20, 19, 19, 20);
        dueTables(soft, 1, false, 2500, 0, 3, 20, 19, 19, 20);
        String step = "columns 4 1; ground 1*2 9*3; rock 1*2 9*3; load 500*5; soil 0 1 0 0;";
        dueTables(step, 7, true, 20000, NONE, NONE);
        dueTables(step, 8, true, 0, 1, 2, 1, 9);
        String far = "columns 4 1; ground 1*2 13*3; rock 1*2 13*3; load 500*5; soil 0 1 0 0;";
        dueTables(far, 11, true, 20000, NONE, NONE);
        dueTables(far, 12, true, 0, 1, 2, 1, 13);
        SlopeJudge x = Edges.told(far);
        // here even level SLIPS fall
        SlopeJudge loose = Edges.told("columns 4 1; rock 20*5; load 500*5; quake 500; soil 0 1 0 0;");
        due("worst(1)", loose.worst(1, true), 1);
        for (int t : new int[] {0, -1, 13, LEAST, MOST}) {
            due("tables(" + t + ")", x.tables(t, true, 0), NONE);
            due("worst(" + t + ")", x.worst(t, true), NONE);
            due("tables(" + t + ")", loose.tables(t, true, 0), NONE);
            due("tables(" + t + ", 1)", loose.tables(t, true, 1), NONE);
            due("worst(" + t + ")", loose.worst(t, true), NONE);
        }
        dueByModel("columns 4 1; ground 5 20 20 20 5; soil 0 20 3 100; quake 40;");
        dueByModel("columns 4 1; ground 5 20 20 5 5; rock 0 3 0 0 0; soil 0 20 0 100; quake 40;");
        dueByModel("columns 4 2; ground 8 12 16 20 24; soil 0 20 3 100; soil 1 10 2 200; soil 2 5 9 50; soil 3 30 1 400; top 1 7 9 14 15 20;"
                + "top 2 5 6 10 11 12; top 3 2 3 8 7 9; water 100 9 10 11 12; quake 40; load 5 4 3 2 1;");
        dueByModel("columns 4 1; ground 8 9 10 9 7; soil 0 20 0 100; soil 3 3 0 20; top 1 100*5; top 2 9 8 9 8 6; top 3 100*5; water 6 8 7 8 9; quake 9;");

        says("by the search as for FACTOR, asking whether all of them STAND (without any such SLIP all do), but without PULLS");
        String holes = "columns 4 1; ground 10 12 10*3; rock 10 11 10*3; top 1 10 12 0*3; soil 0 1 0 0; soil 1 1 0 3;";
        dueTables(holes + "quake 150;", 1, true, 13, 0, 2, 10, 11, 10);
        dueTables(holes + "quake 325;", 1, true, 6, 0, 2, 10, 11, 10);
        String none = "columns 4 1; ground 0 20 0 20 0; rock 0 20 0 20 0; load 500*5; soil 0 1 0 0;";
        dueTables(none, 12, true, 20000, NONE, NONE);
        dueTables(soft + "anchor 0 0 100 500; anchor 1 1 100 500;", 1, true, 2500, 0, 3, 20, 19, 19, 20);
        dueTables("columns 4 1; rock 20*5; load 1 0*4; soil 0 1 0 0; quake 1;", 1, true, 0, 0, 1, 20, 20);
        // RUBS 20019, PUSH 1001
        dueTables("columns 4 1; rock 20*5; load 11 0*4; soil 0 1 6 729; quake 91;", 1, true, 19999, 0, 1, 20, 20);
        // level, RUB 500, QUAKE 100: 5000
        dueTables("columns 40 1; ground 100*41; rock 100*41; load 0*39 100*2; soil 0 1 0 500; quake 100;", 1, true, 5000, 39, 40, 100, 100);
        String bottom = "columns 40 1; ground 0*40 1; rock 0*41; load 0*39 100*2; soil 0 1 0 500; quake 100;";
        dueTables(bottom, 1, false, 5000, 38, 39, 0, 0);
        dueByModel("columns 4 1; ground 12 100 100 100 12; soil 0 1 3 300; quake 400;");
        dueByModel("columns 4 1; ground 100*5; soil 0 1 3 300; quake 400;");
        anew();
        dueByModel("columns 4 1; rock 20 18 18 20 20; soil 0 1 0 500; load 0 5 0 500 0; quake 500; top 1 0 17 20*3; soil 1 1 0 0;");

        says("at k + 1 the one with the least left over (1000 times all RUBS less k + 1 times all PUSHES; FAST ones are out): of several the least a, then b, then the one whose BASES from b back to a are the lesser ones first.");
        dueTables(soft, 2, true, 2333, 0, 3, 20, 19, 18, 20);
        dueTables(soft, 2, false, 2333, 0, 3, 20, 19, 18, 20);
        String still = "soil 0 1 0 0; soil 1 1 0 0; soil 2 1 0 0; soil 3 1 0 0;";
        dueTables("columns 4 1; ground 2 2 3 2 2; rock 2 1 1 1 2; load 0 1 2 0 0;" + still, 1, true, 0, 0, 3, 2, 1, 2, 2);
        // two ways to one BASE, from COLUMN 0 and from COLUMN 1
        dueTables("columns 4 1; ground 2 1 4 3 2; rock 0 0 1 3 1; load 1 0 0 1 2;" + still, 3, true, 0, 0, 3, 2, 0, 1, 3);
        // BASE 0 at COLUMN 1 would leave as much over, but it is 3 below the next
        dueTables("columns 4 1; ground 0 2 3 2 6; rock 0 0 2 0 4; load 3 1 0 1 3;" + still, 2, true, 0, 0, 2, 0, 1, 3);
        dueTables("columns 4 1; ground 0*2 1*3; rock 0*3 1*2; load 3 1 2 0 2;" + still, 1, true, 0, 1, 2, 0, 1);
        dueTables("columns 5 1; ground 1*2 2*2 3*2; rock 1*2 2*2 3*2; load 0 100 0 0 100 0;" + still, 1, true, 0, 1, 2, 1, 2);
        // both fall at 1: the one that is pushed more is told
        dueTables("columns 5 1; ground 1*2 2*2 3*2; rock 1*2 2*2 3*2; load 0 100 0 0 101 0;" + still, 1, true, 0, 3, 4, 2, 3);
        // deep SLIPS here are FAST at k + 1, and would leave over less than those that are not
        dueByModel("columns 4 1; rock 20 8 12 20 20; soil 0 20 0 1500; quake 500;");
        dueByModel("columns 4 1; rock 20 14 20*3; soil 0 20 0 1000; quake 500; load 0*2 9 0*2;");

        says("(k 20000: none is told but k.)");
        dueTables("columns 4 1;", 12, true, 20000, NONE, NONE);
        dueTables("columns 4 1; load 100 0*4; soil 0 1 1 0; rock 20*5; quake 1;", 1, true, 20000, NONE, NONE);
        dueTables("columns 4 1; load 101 0*4; soil 0 1 1 0; rock 20*5; quake 1;", 1, true, 19801, 0, 1, 20, 20);
    }

    /** What one call of TABLES has found is of no matter for the next. */
    private static void anew() {
        String before = "columns 6 1; ground 30 31 33 36 40 40 40; soil 0 20 1 100;";
        String text = "columns 5 1; ground 30 31 33 34 35 35; soil 0 20 1 200;";
        SlopeJudge x = Edges.told(before);
        SlopeJudge fresh = Edges.told(text);
        due("all stand", x.tables(1, false, 0), 20000);
        due("not all stand", x.tables(5, true, 0) < 20000, true);
        x.tables(12, true, 0);
        Edges.put(x, text);
        x.text();
        for (int what : new int[] {0, 1, 2, 10, 11, 12, 13, 14, 15}) {
            due("tables(3, " + what + ") behind others", x.tables(3, true, what), fresh.tables(3, true, what));
            due("tables(1, 0) behind others", x.tables(1, false, 0), 20000);
        }
        x.dig(2, 8);
        fresh.dig(2, 8);
        for (int what : new int[] {0, 1, 2, 10, 11, 12, 13, 14, 15}) {
            due("tables(12, " + what + ") behind a dig", x.tables(12, true, what), fresh.tables(12, true, what));
            x.tables(1, false, 0);
        }
    }

    /** Each SLIP there is looked at one by one. */
    private static void dueByModel(String text) {
        for (int t : new int[] {1, 2, 3, 5, 8, 12}) {
            for (boolean left : new boolean[] {true, false}) {
                Model m = new Model();
                m.w = Model.parse(text, new int[1]);
                SlopeJudge x = Edges.told(text);
                for (int what : new int[] {0, 1, 2, 10, 11, 12, 13, 14, 15}) {
                    due("tables(" + t + ", " + left + ", " + what + ") of " + text, x.tables(t, left, what), m.tables(t, left, what));
                }
            }
        }
    }

    private static void bearing() {
        says("DRY: FACTOR without WATER.");
        SlopeJudge x = level("water 15*5;");
        due("factor with water", x.factor(), 750);
        due("dry", x.dry(), 1000);
        due("the water stays", x.column(1, 2), 15);
        due("dry without water", level("").dry(), 1000);
        due("water below base", level("water 10*5;").factor(), 1000);
        due("water above ground", level("water 100*5;").factor(), 500);
        SlopeJudge other = level("water 15*5;");
        other.soil(0, 20, 0, 200);
        due("as it is now", other.dry(), 2000);
        other.soil(0, 20, 200, 1500);
        due("20000", other.dry(), 20000);
        SlopeJudge bottom = Edges.slipped(Edges.told("columns 4 1; ground 0 20 0*3; soil 0 20 0 100; quake 100; water 9*5;"), true, 0, 0, 0, 0);
        due("base 0", bottom.dry(), 1000);
        due("base 0 in water", bottom.factor(), 775);

        says("BEARS k: how much higher WATER may be in all COLUMNS (0 .. 100; each 100 at most) so that the SLIP STANDS at k for this and all lesser rises; none, if not even for 0.");
        SlopeJudge y = level("");
        int[][] borne = {{1001, NONE}, {20000, NONE}, {1000, 10}, {951, 10}, {950, 11}, {901, 11}, {900, 12}, {501, 19}, {500, 100}, {1, 100}};
        for (int[] b : borne) {
            due("bears(" + b[0] + ")", y.bears(b[0]), b[1]);
        }
        int[][] wet = {{751, NONE}, {750, 0}, {701, 0}, {700, 1}, {501, 4}, {500, 100}};
        for (int[] b : wet) {
            due("bears(" + b[0] + ") from 15 on", x.bears(b[0]), b[1]);
        }
        SlopeJudge full = level("water 100*5;");
        due("bears(500) from 100 on", full.bears(500), 100);
        due("bears(501) from 100 on", full.bears(501), NONE);
        // 3600 less 20 for each metre above 10, against 3600
        SlopeJudge high = Edges.slipped(Edges.told("columns 4 1; ground 10 100 10*3; soil 0 20 0 100; quake 100;"), true, 0, 10, 10, 10);
        due("bears(500), up to 100", high.bears(500), 100);
        due("bears(501), up to 99", high.bears(501), 99);
        y.soil(0, 20, 0, 200);
        due("as it is now", y.bears(1900), 11);
        y.soil(0, 20, 0, 100);
        due("the water stays", y.column(1, 2), 0);

        says("NEEDS k: by how much more HOLD (0 .. 500) in all LAYERS at least it STANDS at k; none.");
        SlopeJudge z = level("");
        z.quake(500);
        int[][] needed = {{1, 0}, {200, 0}, {201, 1}, {220, 1}, {221, 2}, {10180, 499}, {10181, 500}, {10200, 500}, {10201, NONE},
            {20000, NONE}};
        for (int[] n : needed) {
            due("needs(" + n[0] + ")", z.needs(n[0]), n[1]);
        }
        due("the hold stays", z.layer(0, 1), 0);
        z.soil(0, 20, 200, 100);
        due("beyond 200, too", z.needs(10200), 300);
        z.soil(0, 20, 0, 100);
        z.soil(1, 20, 0, 100);
        z.tell(0, 3, 10);
        z.tell(1, 3, 11);
        due("one slice in layer 1", z.slice(0, 5) * 10 + z.slice(1, 5), 10);
        due("in all layers", z.needs(10200), 500);

        says("ANCHORED k: the least PULL (0 .. 20000) at one more ANCHOR that counts by which it STANDS at k; none.");
        SlopeJudge p = level("");
        p.quake(500);
        int[][] pulled = {{1, 0}, {200, 0}, {201, 1}, {202, 1}, {203, 2}, {20000, 99}};
        for (int[] q : pulled) {
            due("pull(" + q[0] + ")", p.pull(q[0]), q[1]);
        }
        p.anchor(3, 1, 11, 98);
        due("beside one that counts", p.pull(20000), 1);
        p.anchor(3, 1, 10, 98);
        due("beside one that does not", p.pull(20000), 99);
        SlopeJudge steep = Edges.told("columns 4 1; ground 0 0 100*3; load 0*2 400 0*2; soil 0 30 0 0;");
        Edges.slipped(steep, true, 1, 0, 0);
        // PUSH 400 times 100000 is 2000 times 20000
        due("20000", steep.pull(20000), 20000);
        steep.quake(4);
        due("20000 and a bit", steep.pull(20000), NONE);
        steep.quake(0);
        steep.tell(2, 2, 399);
        due("less", steep.pull(1), 19950);
        SlopeJudge one = Edges.slipped(Edges.told("columns 4 1; load 1 0*4; soil 0 1 0 0; quake 1;"), true, 0, 0, 0);
        due("a push of 1", one.pull(1), 1);
        one.tell(0, 2, 0);
        due("no push", one.pull(1), 0);
        due("a fast one needs none", fastSlip().pull(1000), 0);
        due("one k more it is not fast", fastSlip().rubs(0, 1001) > 0, true);
    }

    private static SlopeJudge fastSlip() {
        return Edges.slipped(Edges.told("columns 4 1; soil 0 1 0 500; load 0 5 0*3; quake 500;"), true, 0, 20, 18, 20);
    }

    private static void thrusts() {
        says("THRUST behind a SLICE at k: of it and all ahead of it (from a on) k times PUSH by 1000, downwards, less RUBS, together.");
        SlopeJudge down = Edges.told("columns 4 1; ground 12 12 10*3; soil 0 1 0 0; quake 500;");
        Edges.slipped(down, true, 0, 12, 11, 10);
        due("push", down.slice(0, 7), -500);
        due("push", down.slice(1, 7), -500);
        due("a half, downwards", down.thrust(0, 1), -1);
        due("each half downwards", down.thrust(1, 1), -2);
        due("whole", down.thrust(0, 2), -1);
        due("whole", down.thrust(1, 2), -2);
        down.points(false);
        due("push to the right", down.slice(0, 7), 1500);
        due("a half, downwards", down.thrust(0, 1), 1);
        due("from a on, to the right, too", down.thrust(1, 1), 2);
        SlopeJudge x = level("");
        due("thrust(0, 999)", x.thrust(0, 999), -20);
        due("thrust(1, 999)", x.thrust(1, 999), -40);
        due("thrust(0, 1000)", x.thrust(0, 1000), 0);
        due("thrust(1, 20000)", x.thrust(1, 20000), 2 * (400000 - 20000));

        says("CREST at k: the SLICE with the greatest THRUST, of several the first.");
        due("rising", x.crest(1001), 1);
        due("alike", x.crest(1000), 0);
        due("falling", x.crest(999), 0);
        due("falling below 0", Edges.slipped(down, true, 0, 12, 11, 10).crest(1), 0);
        SlopeJudge mid = Edges.told("columns 4 1; ground 10 12 12 10 10; soil 0 1 0 0; quake 0;");
        Edges.slipped(mid, true, 0, 10, 11, 11, 10);
        // PUSHES 1000, 0, -1000: 1, 1, 0
        due("of two the first", mid.crest(1), 0);
        due("thrust(0, 1)", mid.thrust(0, 1), 1);
        due("thrust(1, 1)", mid.thrust(1, 1), 1);
        due("thrust(2, 1)", mid.thrust(2, 1), 0);
        mid.points(false);
        // -1000, 0, 1000: -1, -1, 0
        due("the last", mid.crest(1), 2);
    }

    private static void dueDeep(String text, int column, int k, int x, int y, int r, boolean left) {
        SlopeJudge at = Edges.told(text);
        int most = Math.min(5, at.column(column, 0) - at.column(column, 1));
        int want = NONE;
        for (int d = 0; d <= most; d++) {
            SlopeJudge dug = Edges.told(text);
            dug.dig(column, d);
            int f = dug.boxes(x, y, r, 8, left, 0);
            if (f != -100 && f < k) {
                break;
            }
            want = d;
        }
        due("deep(" + column + ", " + k + ", " + x + ", " + y + ", " + r + ", " + left + ")", at.deep(column, k, x, y, r, left), want);
    }

    private static void deepAndScan() {
        says("DEEP k of a COLUMN: the greatest d (5 at most, and GROUND less ROCK) for which, dug by 0 (as it is), 1 .. d, the CIRCLE by BOXES (with STEP 8) has a FACTOR of k at least each time (there is none: so it has); none, if not even as it is.");
        SlopeJudge x = Edges.told(SLOPE);
        due("there is none", x.deep(4, 20000, 400, 400, 1, true), 5);
        for (int soil = 0; soil <= 6; soil++) {
            x.tell(4, 0, 12 - soil);
            due("ground less rock " + soil, x.deep(4, 20000, 400, 400, 1, true), Math.min(5, soil));
        }
        SlopeJudge y = Edges.told(SLOPE);
        int as = y.boxes(10, 24, 12, 8, true, 0);
        due("not even as it is", y.deep(4, as + 1, 10, 24, 12, true), NONE);
        due("as it is", y.deep(4, as, 10, 24, 12, true) >= 0, true);
        for (int column = 0; column <= 10; column++) {
            for (int v = 1; v <= 5; v++) {
                int k = Edges.told(SLOPE).dug(column, v, 10, 24, 12, true);
                dueDeep(SLOPE, column, k, 10, 24, 12, true);
                dueDeep(SLOPE, column, k + 1, 10, 24, 12, true);
            }
        }

        SlopeJudge other = Edges.told(SLOPE);
        other.soil(0, 20, 0, 100);
        due("as it is now", other.deep(4, as, 10, 24, 12, true), NONE);
        due("as it is now", other.deep(10, other.boxes(10, 24, 12, 8, true, 0), 10, 24, 12, true), 5);

        says("SCAN: the CIRCLES whose x, y, r are each -2, -1, 0, 1 or 2 times a STEP off, which can be told and CUT.");
        String hill = "columns 40 10; ground 0 20*20 40*19 0; soil 0 20 1 200;";
        int[][] scans = {{10, 24, 12, 3}, {10, 24, 12, 1}, {450, 20, 70, 1}, {-50, 20, 70, 5}, {200, -50, 60, 2}, {200, 450, 440, 4},
            {200, 450, 499, 1}, {200, 20, 1, 1}, {200, 20, 2, 1}, {200, 20, 60, 64}, {200, 449, 498, 1}, {448, 20, 60, 1}, {-48, 20, 60, 1}};
        for (int[] s : scans) {
            for (boolean left : new boolean[] {true, false}) {
                dueScan(s[0] == 10 ? SLOPE : hill, s, left, 1500);
            }
        }
    }

    private static void dueScan(String text, int[] s, boolean left, int k) {
        Asked asked = new Asked(() -> Edges.told(text));
        int cuts = 0;
        int below = 0;
        for (int i = 0; i < 125; i++) {
            int f = asked.next().tried(s[0] + (i / 25 - 2) * s[3], s[1] + (i / 5 % 5 - 2) * s[3], s[2] + (i % 5 - 2) * s[3], left);
            cuts += f == NONE ? 0 : 1;
            below += f != NONE && f < k ? 1 : 0;
        }
        SlopeJudge x = Edges.told(text);
        String call = "scan(" + s[0] + ", " + s[1] + ", " + s[2] + ", " + s[3] + ", " + left + ", " + k + ", ";
        due(call + "0)", x.scan(s[0], s[1], s[2], s[3], left, k, 0), cuts);
        due(call + "1)", x.scan(s[0], s[1], s[2], s[3], left, k, 1), below);
    }

    private static int drawn(int state, int m) {
        return (int) ((state >> 8 & 0xffffffL) % m);
    }

    private static int next(int state) {
        return (int) (1664525L * state + 1013904223L);
    }

    /** A level SLIP in one LAYER that STANDS up to 100 times HOLD, or up to 10 times RUB. */
    private static SlopeJudge inLayer(int layer, int hold, int rub) {
        SlopeJudge x = level("");
        for (int ahead = 1; ahead <= layer; ahead++) {
            for (int c = 0; c <= 4; c++) {
                x.tell(c, 2 + ahead, 100);
            }
        }
        for (int l = 0; l < 4; l++) {
            x.soil(l, 20, 7, 7);
        }
        x.soil(layer, 20, hold, rub);
        return x;
    }

    private static void dueChance(int layer, boolean isHold, int told, int w, int state) {
        int s = state;
        for (int draw = 0; draw <= 2 * layer + (isHold ? 0 : 1); draw++) {
            s = next(s);
        }
        int as = told * (100 - w + drawn(s, 2 * w + 1)) / 100;
        int k = (isHold ? 100 : 10) * as;
        SlopeJudge x = inLayer(layer, isHold ? told : 0, isHold ? 0 : told);
        String call = "layer " + layer + ", hold " + isHold + ", " + told + ", state " + state + ": chance(1, " + w + ", ";
        x.state(state);
        due(call + k + ")", x.chance(1, w, k), 0);
        x.state(state);
        due(call + (k + 1) + ")", x.chance(1, w, k + 1), 1);
        s = state;
        for (int draw = 0; draw < 8; draw++) {
            s = next(s);
        }
        due("state behind it", x.look(13), s);
    }

    private static void chances() {
        says("STATE (an int, 0 at first); a DRAW of m: it becomes 1664525 times itself + 1013904223 (ints, which wrap), then it is its highest 24 bits (without sign) modulo m.");
        due("at first", new SlopeJudge().look(13), 0);
        SlopeJudge x = level("");
        due("a draw of 1 is one, too", x.chance(1, 0, 1), 0);
        int s = 0;
        for (int draw = 0; draw < 8; draw++) {
            s = next(s);
        }
        due("eight draws", x.look(13), s);
        int low = 0;
        int high = 0;
        for (int i = 0; i < 40; i++) {
            int state = i == 0 ? LEAST : i == 1 ? MOST : i * 123456789;
            dueChance(0, true, 100, 50, state);
            low += next(state) < 0 ? 1 : 0;
            high += next(state) < 0 ? 0 : 1;
        }
        due("states below 0, and not below", low > 5 && high > 5, true);

        says("CHANCE: n times: of each LAYER, by numbers, HOLD, then RUB are as told times (100 less w and a DRAW of 2 w and 1) by 100, downwards; how many times the SLIP does not STAND at k.");
        for (int layer = 0; layer < 4; layer++) {
            for (int i = 0; i < 6; i++) {
                dueChance(layer, true, 99, 50, i * 987654321);
                dueChance(layer, false, 999, 50, i * 987654321);
                dueChance(layer, true, 133, 1, i * 987654321);
                dueChance(layer, false, 777, 13, i * 987654321);
                dueChance(layer, true, 3, 10, i);
            }
        }
        SlopeJudge all = inLayer(0, 100, 0);
        due("as told, each time", all.chance(40, 0, 10000), 0);
        due("as told, no time", all.chance(40, 0, 10001), 40);
        due("never so little", all.chance(40, 50, 5000), 0);
        due("never so much", all.chance(40, 50, 15001), 40);
        SlopeJudge some = inLayer(0, 100, 0);
        int fallen = 0;
        int state = 5;
        for (int i = 0; i < 40; i++) {
            for (int draw = 0; draw < 8; draw++) {
                state = next(state);
                fallen += draw == 0 && 70 + drawn(state, 61) < 100 ? 1 : 0;
            }
        }
        some.state(5);
        due("as told each time anew", some.chance(40, 30, 10000), fallen);
        due("some fall", fallen > 0 && fallen < 40, true);
        due("the hold stays", some.layer(0, 1), 100);
    }

    private static void dueReport(SlopeJudge x, String want) {
        due("report() of " + want, x.report(), want.length());
        Edges.due("the report", Edges.reported(x), want);
        due("sign behind its end", x.sign(want.length()), NONE);
    }

    private static void reports() {
        says("REPORT of the SLIP: FACTOR as digits, at least four of them (0 ahead), with a . ahead of the last three, a blank (32), a, \"-\", b, a blank, L or R; bytes.");
        SlopeJudge x = Edges.told("columns 20 1; load 0*7 500 0*13; soil 0 1 0 0; quake 500;");
        Edges.slipped(x, true, 7, 0, 0);
        dueReport(x, "0.000 7-8 L");
        // RUBS 500 times RUB, PUSH 250000: FACTOR is twice RUB
        int[][] rubs = {{1, 2}, {4, 8}, {5, 10}, {49, 98}, {50, 100}, {499, 998}, {500, 1000}, {999, 1998}, {1000, 2000}, {1500, 3000}};
        for (int[] r : rubs) {
            x.soil(0, 1, 0, r[0]);
            dueReport(x, "" + r[1] / 1000 + "." + (r[1] % 1000 + 1000 + "").substring(1) + " 7-8 L");
        }
        x.soil(0, 1, 0, 1500);
        // 750000000 by 500 times QUAKE
        int[][] quakes = {{150, 10000}, {151, 9933}, {149, 10067}, {76, 19736}, {75, 20000}, {0, 20000}};
        for (int[] q : quakes) {
            x.quake(q[0]);
            dueReport(x, "" + q[1] / 1000 + "." + (q[1] % 1000 + 1000 + "").substring(1) + " 7-8 L");
        }
        Edges.slipped(x, false, 9, 0, 0);
        dueReport(x, "20.000 9-10 R");
        Edges.slipped(x, false, 0, 0, 0);
        dueReport(x, "20.000 0-1 R");
        Edges.slipped(x, true, 19, 0, 0);
        dueReport(x, "20.000 19-20 L");
        SlopeJudge wide = Edges.told("columns 40 10;");
        wide.point(0, 19);
        wide.point(40, 19);
        wide.points(true);
        dueReport(wide, "20.000 0-40 L");
    }

    public static void main(String[] args) {
        circles();
        points();
        boxes();
        tables();
        bearing();
        thrusts();
        deepAndScan();
        chances();
        reports();
        Edges.end();
    }
}
