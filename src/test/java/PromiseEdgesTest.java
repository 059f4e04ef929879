import java.util.ArrayList;
import java.util.List;

/** The edges that promises 1 to 45 name (8 to 11 stand in TextEdgesTest), and those of section 4 beside a TEXT. */
public final class PromiseEdgesTest {
    private static final int NONE = Edges.NONE;
    private static final int LEAST = Edges.LEAST;
    private static final int MOST = Edges.MOST;
    private static final int[] NO_K = {0, -1, 20001, LEAST, MOST};
    private static final String LEVEL = "columns 4 1; ground 10 20 10*3; soil 0 20 0 100; quake 100;";
    private static final String SLOPE = "columns 10 2; ground 10*4 12 14 16 18*4; soil 0 20 2 200; water 5*11;";

    private static void says(int promise, String words) {
        Edges.says(promise, words);
    }

    private static void due(String call, long got, long want) {
        Edges.due(call, got, want);
    }

    private static void due(String call, boolean got, boolean want) {
        Edges.due(call, got, want);
    }

    /** The call is answered so, and nothing is other than it was: of a ground with all there can be. */
    private static void idle(String call, long want, Edges.Call it) {
        Edges.idle(call, Edges::rich, it, want);
    }

    /** Likewise without a SLIP. */
    private static void idleBare(String call, long want, Edges.Call it) {
        Edges.idle(call, PromiseEdgesTest::bare, it, want);
    }

    private static SlopeJudge bare() {
        SlopeJudge x = Edges.rich();
        x.tell(0, 0, 0);
        return x;
    }

    private static SlopeJudge level(String more) {
        return Edges.slipped(Edges.told(LEVEL + more), true, 0, 10, 10, 10);
    }

    private static SlopeJudge slope() {
        return Edges.told(SLOPE);
    }

    private static void begun() {
        says(1, "A level GROUND.");
        SlopeJudge x = new SlopeJudge();
        for (int c = 0; c <= 20; c++) {
            due("ground of " + c, x.column(c, 0), 20);
            due("top of " + c, x.column(c, 4), 20);
            for (int what : new int[] {1, 2, 3, 5, 6, 7}) {
                due("column(" + c + ", " + what + ")", x.column(c, what), 0);
            }
            due("column(" + c + ", 8)", x.column(c, 8), NONE);
        }
        int[] looks = {20, 4, 0, 0, 0, NONE, NONE, NONE, 0, 0, 0, 20, 420, 0};
        for (int what = 0; what < looks.length; what++) {
            due("look(" + what + ")", x.look(what), looks[what]);
        }
        due("undo()", x.undo(), NONE);
        due("image(false)", x.image(false), false);
        due("sign(0)", x.sign(0), NONE);
        due("points(true)", x.points(true), NONE);
        due("fault(0)", x.fault(0), 0);
        due("fault(1)", x.fault(1), NONE);

        says(0, "The constants: `NONE = -1`: None.");
        due("NONE", SlopeJudge.NONE, -1);
    }

    private static void told() {
        says(2, "n, B are told (all as at first): true; false if they can't be.");
        SlopeJudge x = Edges.rich();
        due("size(5, 6)", x.size(5, 6), true);
        SlopeJudge y = Edges.told("columns 5 6;");
        Edges.due("as at first", Edges.ground(x), Edges.ground(y));
        due("points stay", x.look(8), 5);
        due("state stays", x.look(13), -77);
        due("the tape stays", x.look(10), 12);
        due("an act", x.look(9), 5);
        for (int[] s : new int[][] {{3, 6}, {41, 6}, {5, 0}, {5, 11}, {0, 0}, {LEAST, LEAST}, {MOST, MOST}}) {
            idle("size(" + s[0] + ", " + s[1] + ")", 0, z -> Edges.bit(z.size(s[0], s[1])));
        }

        says(3, "Of a COLUMN what 0 ROCK, 1 WATER, 2 LOAD, 3 .. 5 TOP of LAYER what less 2: true; false if it can't be.");
        int[] most = {20, 100, 500, 100, 100, 100};
        for (int what = 0; what < 6; what++) {
            int last = what;
            SlopeJudge z = Edges.told("columns 4 3;");
            for (int c : new int[] {0, 4}) {
                due("tell(" + c + ", " + what + ", 0)", z.tell(c, what, 0), true);
                due("tell(" + c + ", " + what + ", most)", z.tell(c, what, most[what]), true);
            }
            for (int v : new int[] {-1, 501, LEAST, MOST}) {
                idle("tell(0, " + what + ", " + v + ")", 0, q -> Edges.bit(q.tell(0, last, v)));
            }
            for (int c : new int[] {-1, 5, 40, 41, LEAST, MOST}) {
                idle("tell(" + c + ", " + what + ", 0)", 0, q -> Edges.bit(q.tell(c, last, 0)));
            }
        }
        for (int what : new int[] {0, 1, 3, 4, 5}) {
            idle("tell(0, " + what + ", 101)", 0, q -> Edges.bit(q.tell(0, what, 101)));
        }
        idle("rock above ground", 0, q -> Edges.bit(q.tell(0, 0, 21)));
        for (int what : new int[] {-1, 6, LEAST, MOST}) {
            idle("tell(0, " + what + ", 0)", 0, q -> Edges.bit(q.tell(0, what, 0)));
        }
        SlopeJudge each = Edges.told("columns 4 3;");
        int[] told = {1, 2, 3, 19, 18, 17};
        int[] asked = {1, 2, 3, 5, 6, 7};
        for (int what = 0; what < 6; what++) {
            each.tell(2, what, told[what]);
        }
        for (int what = 0; what < 6; what++) {
            due("column(2, " + asked[what] + ")", each.column(2, asked[what]), told[what]);
            due("column(1, " + asked[what] + ")", each.column(1, asked[what]), 0);
            due("column(3, " + asked[what] + ")", each.column(3, asked[what]), 0);
        }
        due("no act", each.look(9), 1);
    }

    private static void dug() {
        says(4, "DIG: GROUND then; NONE if it would be below ROCK (0 too) or above 100, or v is 0.");
        SlopeJudge x = Edges.told("columns 4 3; rock 0 7 20 0 0;");
        due("down to rock", x.dig(1, 13), 7);
        due("below rock", x.dig(1, 1), NONE);
        due("rock at ground", x.dig(2, 1), NONE);
        due("down to 0", x.dig(0, 20), 0);
        due("below 0", x.dig(0, 1), NONE);
        due("up to 100", x.dig(3, -80), 100);
        due("above 100", x.dig(3, -1), NONE);
        due("from 0 up to 100", x.dig(0, -100), 100);
        due("from 100 down to 0", x.dig(0, 100), 0);
        due("acts", x.look(9), 6);
        for (int v : new int[] {0, 21, 20, -81, LEAST, MOST, LEAST + 1, LEAST + 20}) {
            idle("dig(1, " + v + ")", NONE, y -> y.dig(1, v));
        }
        for (int c : new int[] {-1, 5, LEAST, MOST}) {
            idle("dig(" + c + ", 1)", NONE, y -> y.dig(c, 1));
        }

        says(0, "To DIG a COLUMN by v: GROUND is v less (v below 0: filled).");
        SlopeJudge z = Edges.told("columns 4 3;");
        due("dig(4, 3)", z.dig(4, 3), 17);
        due("column(4, 0)", z.column(4, 0), 17);
        due("dig(4, -5)", z.dig(4, -5), 22);
        due("column(4, 0)", z.column(4, 0), 22);
        due("column(3, 0)", z.column(3, 0), 20);

        says(5, "Of a LAYER WEIGHT, HOLD, RUB: true; false if one can't be.");
        for (int[] s : new int[][] {{-1, 1, 0, 0}, {4, 1, 0, 0}, {0, 0, 0, 0}, {0, 31, 0, 0}, {3, 1, -1, 0}, {3, 1, 201, 0}, {3, 1, 0, -1},
            {3, 1, 0, 1501}}) {
            idle("soil(" + s[0] + ", " + s[1] + ", " + s[2] + ", " + s[3] + ")", 0, y -> Edges.bit(y.soil(s[0], s[1], s[2], s[3])));
        }
        due("soil(3, 30, 200, 1500)", z.soil(3, 30, 200, 1500), true);
        due("soil(0, 1, 0, 0)", z.soil(0, 1, 0, 0), true);
        due("no act", z.look(9), 3);

        says(6, "QUAKE: true; false if it can't be.");
        for (int q : new int[] {-1, 501, LEAST, MOST}) {
            idle("quake(" + q + ")", 0, y -> Edges.bit(y.quake(q)));
        }
        due("quake(0)", z.quake(0), true);
        due("quake(500)", z.quake(500), true);
        due("look(2)", z.look(2), 500);
        due("no act", z.look(9), 3);

        says(7, "An ANCHOR (PULL 0: it is none any more): true; false if one can't be.");
        SlopeJudge a = Edges.rich();
        due("anchor(5, 4, 50, 0)", a.anchor(5, 4, 50, 0), true);
        due("look(3)", a.look(3), 4);
        for (int what = 0; what < 4; what++) {
            due("anchored(5, " + what + ")", a.anchored(5, what), NONE);
        }
        due("none there was", a.anchor(0, 0, 0, 0), true);
        due("look(3)", a.look(3), 4);
        due("anew", a.anchor(5, 0, 100, 500), true);
        due("look(3)", a.look(3), 36);
        for (int[] s : new int[][] {{-1, 0, 0, 0}, {6, 0, 0, 0}, {-1, 0, 0, 1}, {6, 0, 0, 1}, {2, -1, 0, 1}, {2, 5, 0, 1}, {2, 0, -1, 1},
            {2, 0, 101, 1}, {2, 0, 0, -1}, {2, 0, 0, 501}}) {
            idle("anchor(" + s[0] + ", " + s[1] + ", " + s[2] + ", " + s[3] + ")", 0, y -> Edges.bit(y.anchor(s[0], s[1], s[2], s[3])));
        }
    }

    private static void slips() {
        says(12, "The SLIP is a CIRCLE's: how many SLICES it has; NONE, and it stays, if one can't be, or it does not CUT.");
        SlopeJudge x = new SlopeJudge();
        due("one column", x.circle(40, 20, 1, true), 2);
        due("look(4)", x.look(4), 2);
        due("circle(40, 25, 10)", x.circle(40, 25, 10, true), 6);
        due("look(4)", x.look(4), 6);
        due("no act", x.look(9), 0);
        for (int[] c : new int[][] {{-51, 25, 10}, {451, 25, 10}, {6, -51, 10}, {6, 451, 440}, {6, 25, 0}, {6, 25, 501}, {6, 25, LEAST}, {6, 60, 5},
            {0, 25, 10}, {12, 25, 10}, {6, 20, 400}}) {
            idle("circle(" + c[0] + ", " + c[1] + ", " + c[2] + ")", NONE, y -> y.circle(c[0], c[1], c[2], false));
        }

        says(13, "A POINT comes behind the others (column NONE: there are none any more): how many there are; NONE if one can't be, or there are 12.");
        SlopeJudge p = Edges.told("columns 4 3;");
        due("none there were", p.point(NONE, 0), 0);
        due("height 0", p.point(0, 0), 1);
        due("height 100", p.point(4, 100), 2);
        due("look(8)", p.look(8), 2);
        due("column NONE, any height", p.point(NONE, 101), 0);
        due("look(8)", p.look(8), 0);
        due("the first again", p.point(0, 0), 1);
        for (int[] c : new int[][] {{4, 5}, {3, 5}, {0, 5}, {5, 5}, {-2, 5}, {LEAST, 5}, {MOST, 5}}) {
            idle("point(" + c[0] + ", " + c[1] + ")", NONE, y -> y.point(c[0], c[1]));
        }
        Edges.Maker three = () -> {
            SlopeJudge y = Edges.rich();
            y.point(NONE, 0);
            y.point(0, 20);
            y.point(1, 17);
            return y;
        };
        for (int[] c : new int[][] {{1, 5}, {0, 5}, {2, -1}, {2, 101}, {2, LEAST}, {2, MOST}, {5, 5}}) {
            Edges.idle("point(" + c[0] + ", " + c[1] + ")", three, y -> y.point(c[0], c[1]), NONE);
        }
        SlopeJudge many = new SlopeJudge();
        for (int c = 0; c < 12; c++) {
            due("point " + c, many.point(c, 19 - c % 2), c + 1);
        }
        due("the 13th", many.point(20, 5), NONE);
        due("points() of the 12", many.points(true), 11);
        due("the last but one as told", many.column(10, 8), 19);
        due("none any more", many.point(NONE, 0), 0);
        due("the first anew", many.point(0, 5), 1);

        says(14, "The SLIP is that of the POINTS (2 at least): how many SLICES; NONE, and it stays, if none can be.");
        SlopeJudge q = Edges.rich();
        q.point(NONE, 0);
        due("of none", q.points(true), NONE);
        q.point(1, 5);
        due("of one", q.points(true), NONE);
        due("it stays", q.look(4), 4);
        q.point(2, 5);
        due("of two", q.points(false), 1);
        due("it is", q.look(4), 1);
        due("points stay", q.look(8), 2);
        q.point(3, 24);
        due("of three, at b", q.points(false), 2);
        q.point(4, 24);
        due("not below ground", q.points(true), NONE);
        due("it stays", q.look(4), 2);
        due("right", q.look(7), 0);
        q.size(4, 3);
        due("below another ground", q.points(true), NONE);
        q.dig(3, -5);
        due("as there is room", q.points(true), 3);
        q.point(NONE, 0);
        q.size(10, 1);
        q.point(0, 5);
        q.point(10, 5);
        q.size(9, 1);
        due("there is no such column", q.points(true), NONE);
        q.size(10, 1);
        due("there is again", q.points(true), 10);

        says(15, "The SLIP is that of TABLES: how many SLICES; NONE, and it stays, if there is none, or t can't be.");
        SlopeJudge w = slope();
        due("worst(3)", w.worst(3, true), w.tables(3, true, 2) - w.tables(3, true, 1));
        for (int c = 0; c <= 10; c++) {
            due("base " + c, w.column(c, 8), w.tables(3, true, 10 + c));
        }
        due("left", w.look(7), 1);
        due("worst(1)", w.worst(1, true), w.tables(1, true, 2) - w.tables(1, true, 1));
        due("worst(12)", w.worst(12, true), w.tables(12, true, 2) - w.tables(12, true, 1));
        int as = w.look(4);
        for (int t : new int[] {0, 13, -1, LEAST, MOST}) {
            idle("worst(" + t + ")", NONE, y -> y.worst(t, true));
        }
        due("it stays", w.look(4), as);
        Edges.Maker firm = () -> Edges.slipped(Edges.told("columns 4 1;"), true, 0, 20, 15, 20);
        Edges.idle("worst(2) where all stand", firm, y -> y.worst(2, false), NONE);
        SlopeJudge r = Edges.told("columns 4 1; ground 2*2 1*3; rock 2*2 1*3; load 0 100 0*3; soil 0 1 0 0;");
        due("right", r.worst(1, false), 1);
        due("right", r.look(7), 0);
        due("a", r.look(5), 1);
    }

    private static void undone() {
        says(16, "The latest ACT is UNDONE: how many are left.");
        SlopeJudge x = Edges.told("columns 4 1;");
        x.dig(0, 1);
        due("the second", x.undo(), 1);
        due("ground", x.column(0, 0), 20);
        due("n", x.look(0), 4);
        due("the first", x.undo(), 0);
        due("n", x.look(0), 20);

        says(16, "NONE if there is none.");
        due("none any more", x.undo(), NONE);
        due("n", x.look(0), 20);
        Edges.idle("undo() of none", SlopeJudge::new, SlopeJudge::undo, NONE);

        says(0, "ACTS that can be UNDONE (the latest 8): dig(), text(), size(), mirror(): COLUMNS, LAYERS, LOADS, QUAKE, ANCHORS, the SLIP are as ahead of it (POINTS, STATE stay).");
        List<Edges.Call> acts = new ArrayList<>();
        acts.add(y -> y.dig(1, 2));
        acts.add(y -> y.dig(1, -2));
        acts.add(SlopeJudge::text);
        acts.add(y -> Edges.bit(y.size(9, 9)));
        acts.add(y -> Edges.bit(y.mirror()));
        for (Edges.Call act : acts) {
            SlopeJudge y = Edges.rich();
            String before = Edges.ground(y);
            due("an act", act.on(y) > 0, true);
            due("it can be undone", y.look(9), 5);
            due("it is another ground", !Edges.ground(y).equals(before), true);
            y.quake(3);
            y.soil(1, 1, 1, 1);
            y.tell(0, 2, 499);
            y.anchor(0, 0, 1, 1);
            y.state(5);
            y.point(NONE, 0);
            due("undo()", y.undo(), 4);
            Edges.due("as ahead of it", Edges.ground(y), before);
            due("state stays", y.look(13), 5);
            due("points stay", y.look(8), 0);
        }
        SlopeJudge many = Edges.told("columns 4 1;");
        for (int i = 1; i <= 11; i++) {
            many.dig(0, 1);
            due("acts", many.look(9), Math.min(8, 1 + i));
        }
        for (int left = 7; left >= 0; left--) {
            due("undo()", many.undo(), left);
            due("ground", many.column(0, 0), 20 - 3 - left);
        }
        due("no more than 8", many.undo(), NONE);
        due("ground", many.column(0, 0), 17);
        many.dig(0, 1);
        due("an act again", many.look(9), 1);
        due("undo()", many.undo(), 0);
        due("ground", many.column(0, 0), 17);
        SlopeJudge wide = wide();
        String whole = Edges.ground(wide);
        wide.size(40, 1);
        wide.undo();
        Edges.due("40 columns", Edges.ground(wide), whole);
        SlopeJudge none = Edges.told("columns 4 1;");
        none.undo();
        none.tell(0, 0, 1);
        none.tell(0, 2, 1);
        none.soil(0, 1, 1, 1);
        none.quake(1);
        none.anchor(0, 0, 0, 1);
        none.circle(40, 25, 10, true);
        none.point(0, 0);
        none.state(1);
        none.report();
        none.image(true);
        none.worst(1, true);
        due("no other call is one", none.look(9), 0);
    }

    /** 40 COLUMNS of which the last one has all there can be. */
    private static SlopeJudge wide() {
        SlopeJudge x = Edges.told("columns 40 2; ground 20*40 30; rock 0*40 1; water 0*40 2; load 0*40 3; top 1 0*40 9; top 2 0*40 8; top 3 0*40 7;"
                + "anchor 5 40 40 40; soil 3 3 3 3; quake 3;");
        int[] last = {30, 1, 2, 3, 30, 9, 8, 7};
        for (int what = 0; what < last.length; what++) {
            due("column(40, " + what + ")", x.column(40, what), last[what]);
        }
        x.point(0, 19);
        x.point(40, 19);
        x.points(true);
        return x;
    }

    private static void askedGround() {
        says(17, "Of a COLUMN what 0 GROUND, 1 ROCK, 2 WATER (as it counts), 3 LOAD, 4 .. 7 TOP of LAYER what less 4 (as it counts), 8 BASE of the SLIP (NONE).");
        SlopeJudge x = Edges.rich();
        int[][] want = {{20, 0, 20, 1, 20, 15, 15, 6, 20}, {20, 1, 12, 2, 20, 15, 15, 6, 17}, {23, 4, 0, 5, 23, 15, 15, 6, 23}};
        int[] columns = {0, 1, 4};
        for (int i = 0; i < 3; i++) {
            for (int what = 0; what < 9; what++) {
                due("column(" + columns[i] + ", " + what + ")", x.column(columns[i], what), want[i][what]);
            }
        }
        due("no base without a slip", bare().column(1, 8), NONE);
        Edges.slipped(x, true, 1, 0, 16, 0);
        due("ahead of a", x.column(0, 8), NONE);
        due("at a", x.column(1, 8), 20);
        due("between", x.column(2, 8), 16);
        due("at b", x.column(3, 8), 24);
        due("behind b", x.column(4, 8), NONE);

        says(17, "NONE - 9 if there is none such, or another what.");
        for (int what = -2; what < 12; what++) {
            int last = what;
            for (int c : new int[] {-1, 5, 40, 41, LEAST, MOST}) {
                idle("column(" + c + ", " + what + ")", -10, y -> y.column(c, last));
            }
        }
        for (int what : new int[] {-1, 9, LEAST, MOST}) {
            idle("column(0, " + what + ")", -10, y -> y.column(0, what));
        }

        says(18, "Of a LAYER what 0 WEIGHT, 1 HOLD, 2 RUB.");
        int[] soil = {30, 40, 500};
        int[] first = {10, 10, 300};
        for (int what = 0; what < 3; what++) {
            due("layer(2, " + what + ")", x.layer(2, what), soil[what]);
            due("layer(0, " + what + ")", x.layer(0, what), first[what]);
        }

        says(18, "NONE if there is none such, or another what.");
        for (int what = 0; what < 3; what++) {
            int last = what;
            for (int l : new int[] {-1, 4, LEAST, MOST}) {
                idle("layer(" + l + ", " + what + ")", NONE, y -> y.layer(l, last));
            }
        }
        for (int what : new int[] {-1, 3, LEAST, MOST}) {
            idle("layer(0, " + what + ")", NONE, y -> y.layer(0, what));
            idle("layer(3, " + what + ")", NONE, y -> y.layer(3, what));
        }

        says(19, "Of an ANCHOR what 0 COLUMN, 1 height, 2 PULL, 3 whether it counts for the SLIP (1, 0).");
        SlopeJudge a = Edges.rich();
        int[] two = {1, 99, 7, 1};
        int[] five = {4, 50, 8, 0};
        for (int what = 0; what < 4; what++) {
            due("anchored(2, " + what + ")", a.anchored(2, what), two[what]);
            due("anchored(5, " + what + ")", a.anchored(5, what), five[what]);
        }
        due("without a slip", bare().anchored(2, 3), 0);
        due("without a slip", bare().anchored(2, 2), 7);

        says(19, "NONE if there is none such, or another what.");
        for (int what = 0; what < 4; what++) {
            int last = what;
            for (int i : new int[] {0, 1, 3, 4, -1, 6, LEAST, MOST}) {
                idle("anchored(" + i + ", " + what + ")", NONE, y -> y.anchored(i, last));
            }
        }
        for (int what : new int[] {-1, 4, LEAST, MOST}) {
            idle("anchored(2, " + what + ")", NONE, y -> y.anchored(2, what));
        }
    }

    private static void askedSlip() {
        says(20, "Of the i-th SLICE what 0 its COLUMN, 1 RISE, 2 WEIGHT, 3 LIFT, 4 PRESS, 5 LAYER, 6 STRENGTH, 7 PUSH.");
        // BASES 20 12 10 12 20 in LAYERS from 20, 15, 15 and 11 down, B 3
        SlopeJudge layered = Edges.told("columns 4 3; top 1 15*5; top 2 18*5; top 3 11*5; load 0 7 0*3; water 0 30 14 0 0;"
                + "soil 0 10 10 300; soil 1 20 5 200; soil 2 30 40 500; soil 3 5 90 900; quake 100;");
        Edges.slipped(layered, true, 0, 20, 12, 10, 12, 20);
        long[][] want = {{0, -8, 441, 240, 201, 0, 120300, -3395700}, {1, -2, 966, 360, 606, 2, 543000, -1642200},
            {2, 2, 945, 120, 825, 2, 652500, 2173500}, {3, 8, 420, 0, 420, 0, 186000, 3486000}};
        for (int i = 0; i < want.length; i++) {
            for (int what = 0; what < 8; what++) {
                due("slice(" + i + ", " + what + ")", layered.slice(i, what), want[i][what]);
            }
        }

        says(20, "NONE - 9999999999999 if there is none such, or another what.");
        SlopeJudge x = Edges.rich();
        due("the first", x.slice(0, 0), 0);
        due("the last", x.slice(3, 0), 3);
        for (int what = 0; what < 8; what++) {
            int last = what;
            due("slice(0, " + what + ")", x.slice(0, what) != Edges.NO_SLICE, true);
            due("slice(3, " + what + ")", x.slice(3, what) != Edges.NO_SLICE, true);
            for (int i : new int[] {-1, 4, LEAST, MOST}) {
                idle("slice(" + i + ", " + what + ")", Edges.NO_SLICE, y -> y.slice(i, last));
            }
            idleBare("slice(0, " + what + ")", Edges.NO_SLICE, y -> y.slice(0, last));
        }
        for (int what : new int[] {-1, 8, LEAST, MOST}) {
            idle("slice(0, " + what + ")", Edges.NO_SLICE, y -> y.slice(0, what));
        }
        Edges.slipped(x, true, 2, 0, 0);
        due("one slice: its column", x.slice(0, 0), 2);
        due("one slice: no second", x.slice(1, 0), Edges.NO_SLICE);

        says(21, "RUBS of the i-th SLICE at k (1 .. 20000).");
        SlopeJudge f = level("");
        due("rubs(0, 1)", f.rubs(0, 1), 20000);
        due("rubs(1, 20000)", f.rubs(1, 20000), 20000);

        says(21, "NONE if it is FAST; NONE - 9 if one can't be.");
        SlopeJudge fast = Edges.slipped(Edges.told("columns 4 1; soil 0 1 0 500;"), true, 0, 20, 18, 20);
        due("fast", fast.rubs(0, 1000), NONE);
        due("not fast", fast.rubs(0, 1001), 1000 * 5 * 1001L);
        due("none, not fast", Edges.slipped(Edges.told("columns 4 1; soil 0 1 0 0;"), true, 0, 20, 18, 20).rubs(0, 1), 0);
        for (int k : NO_K) {
            idle("rubs(0, " + k + ")", -10, y -> y.rubs(0, k));
        }
        for (int i : new int[] {-1, 4, LEAST, MOST}) {
            idle("rubs(" + i + ", 1000)", -10, y -> y.rubs(i, 1000));
        }
        idleBare("rubs(0, 1000)", -10, y -> y.rubs(0, 1000));

        says(22, "Whether the SLIP STANDS at k (1, 0).");
        due("stands(1000)", f.stands(1000), 1);
        due("stands(1001)", f.stands(1001), 0);
        due("stands(1)", f.stands(1), 1);
        due("stands(20000)", f.stands(20000), 0);

        says(22, "NONE if k can't be, or there is no SLIP.");
        for (int k : NO_K) {
            idle("stands(" + k + ")", NONE, y -> y.stands(k));
        }
        idleBare("stands(1000)", NONE, y -> y.stands(1000));

        says(23, "FACTOR.");
        due("factor()", f.factor(), 1000);
        idle("factor()", Edges.rich().factor(), SlopeJudge::factor);

        says(23, "NONE without a SLIP.");
        idleBare("factor()", NONE, SlopeJudge::factor);

        says(24, "Of the SLIP together what 0 PUSHES, 1 PULLS, 2 WEIGHTS, 3 LIFTS, 4 STRENGTHS.");
        SlopeJudge s = level("water 15*5; anchor 0 1 11 3;");
        long[] sums = {40000, 6000, 400, 100, 30000};
        for (int what = 0; what < 5; what++) {
            due("sum(" + what + ")", s.sum(what), sums[what]);
        }
        shorter();

        says(24, "NONE - 9999999999999 without one, or for another what.");
        for (int what = 0; what < 5; what++) {
            int last = what;
            idleBare("sum(" + what + ")", Edges.NO_SLICE, y -> y.sum(last));
        }
        for (int what : new int[] {-1, 5, LEAST, MOST}) {
            idle("sum(" + what + ")", Edges.NO_SLICE, y -> y.sum(what));
        }
    }

    /** A SLIP behind a longer one: nothing of that counts. */
    private static void shorter() {
        SlopeJudge x = Edges.told("columns 6 1; ground 10 20 10 20*3 12; load 0*3 500*4; soil 0 20 0 100; quake 100; water 0 15 0 100*4;");
        Edges.slipped(x, true, 0, 10, 10, 9, 5, 4, 3, 12);
        x.factor();
        Edges.slipped(x, true, 0, 10, 10, 10);
        long[] sums = {40000, 0, 400, 100, 30000};
        for (int what = 0; what < 5; what++) {
            due("sum(" + what + ") behind a longer one", x.sum(what), sums[what]);
        }
        due("factor() behind a longer one", x.factor(), 750);
        due("shape(4) behind a longer one", x.shape(4), 0);
        due("shape(5) behind a longer one", x.shape(5), 0);
        due("crest(20000) behind a longer one", x.crest(20000), 1);
        due("crest(1) behind a longer one", x.crest(1), 0);
        due("needs(751) behind a longer one", x.needs(751), 1);
        SlopeJudge light = Edges.told("columns 4 1; soil 0 1 0 0; water 100*5;");
        Edges.slipped(light, true, 0, 0, 10, 10, 10, 0);
        due("shape(5)", light.shape(5), 4);
        Edges.slipped(light, true, 0, 0, 0);
        due("shape(5) behind a longer one", light.shape(5), 0);
    }

    private static void borne() {
        says(25, "DRY.");
        due("dry()", level("water 15*5;").dry(), 1000);
        idle("dry()", Edges.rich().dry(), SlopeJudge::dry);

        says(25, "NONE without a SLIP.");
        idleBare("dry()", NONE, SlopeJudge::dry);

        says(26, "BEARS (k 1 .. 20000).");
        due("bears(1)", level("").bears(1), 100);
        due("bears(1000)", level("").bears(1000), 10);
        SlopeJudge now = level("");
        now.soil(0, 20, 0, 200);
        due("as it is now", now.bears(2000), 10);
        due("all at 20000", Edges.slipped(Edges.told("columns 4 1;"), true, 0, 20, 15, 20).bears(20000), 100);
        idle("bears(1)", 100, y -> y.bears(1));

        says(26, "NONE if k can't be, there is no SLIP, or none.");
        due("none", level("").bears(1001), NONE);
        due("none at 20000", level("").bears(20000), NONE);
        for (int k : NO_K) {
            idle("bears(" + k + ")", NONE, y -> y.bears(k));
        }
        idleBare("bears(1)", NONE, y -> y.bears(1));

        says(27, "NEEDS likewise.");
        due("needs(1)", level("").needs(1), 0);
        due("needs(20000)", level("").needs(20000), 190);
        for (int k : NO_K) {
            idle("needs(" + k + ")", NONE, y -> y.needs(k));
        }
        // RUBS 240000 and 4000 for each HOLD, against 20000 times 240: 1140 would do
        due("none", level("load 500*5;").needs(20000), NONE);
        due("none", Edges.slipped(Edges.told("columns 4 1; load 500*5; quake 500; rock 20*5;"), true, 0, 0, 0).needs(20000), NONE);
        idle("needs(1)", 0, y -> y.needs(1));
        idleBare("needs(1)", NONE, y -> y.needs(1));

        says(28, "ANCHORED likewise.");
        due("pull(1)", level("").pull(1), 0);
        due("pull(20000)", level("").pull(20000), 19);
        for (int k : NO_K) {
            idle("pull(" + k + ")", NONE, y -> y.pull(k));
        }
        SlopeJudge steep = Edges.told("columns 4 1; ground 0 0 100*3; load 0*2 401 0*2; soil 0 30 0 0;");
        due("none", Edges.slipped(steep, true, 1, 0, 0).pull(1), NONE);
        idle("pull(1)", 0, y -> y.pull(1));
        idleBare("pull(1)", NONE, y -> y.pull(1));
    }

    private static void circles() {
        says(29, "FACTOR of a CIRCLE.");
        SlopeJudge x = slope();
        int tried = x.tried(10, 24, 12, true);
        x.circle(10, 24, 12, true);
        due("tried", tried, x.factor());
        x.circle(10, 24, 12, false);
        due("to the right", x.tried(10, 24, 12, false), x.factor());
        SlopeJudge cut = bare();
        due("circle(6, 25, 6)", cut.circle(6, 25, 6, true) > 0, true);
        idleBare("tried(6, 25, 6)", cut.factor(), y -> y.tried(6, 25, 6, true));

        says(29, "NONE if one can't be, or it does not CUT.");
        for (int[] c : new int[][] {{-51, 25, 10}, {451, 25, 10}, {6, -51, 10}, {6, 451, 440}, {6, 25, 0}, {6, 25, 501}, {LEAST, LEAST, LEAST},
            {MOST, MOST, MOST}, {6, 60, 5}, {0, 25, 10}, {12, 25, 10}}) {
            idle("tried(" + c[0] + ", " + c[1] + ", " + c[2] + ")", NONE, y -> y.tried(c[0], c[1], c[2], false));
        }

        says(30, "BOXES what 0 the FACTOR, 1 x, 2 y, 3 r, 4 rounds.");
        SlopeJudge b = new SlopeJudge();
        int[] want = {20000, 40, 25, 10, 7};
        for (int what = 0; what < 5; what++) {
            due("boxes(40, 25, 10, 64, " + what + ")", b.boxes(40, 25, 10, 64, true, what), want[what]);
        }
        idle("boxes(6, 25, 6, 8, 2)", Edges.rich().boxes(6, 25, 6, 8, true, 2), y -> y.boxes(6, 25, 6, 8, true, 2));

        says(30, "NONE - 99 if there is none, one can't be, or another what.");
        for (int what = 0; what < 5; what++) {
            int last = what;
            for (int[] c : new int[][] {{-51, 25, 10, 1}, {451, 25, 10, 1}, {6, -51, 10, 1}, {6, 451, 10, 1}, {6, 25, 0, 1}, {6, 25, 501, 1},
                {6, 25, 10, 0}, {6, 25, 10, 65}, {6, 25, 10, -1}, {LEAST, 25, 10, 1}, {6, MOST, 10, 1}, {6, 25, LEAST, 1}, {6, 25, 10, LEAST},
                {6, 25, 10, MOST}, {400, 400, 1, 64}}) {
                idle("boxes(" + c[0] + ", " + c[1] + ", " + c[2] + ", " + c[3] + ", " + what + ")", -100,
                        y -> y.boxes(c[0], c[1], c[2], c[3], true, last));
            }
        }
        for (int what : new int[] {-1, 5, LEAST, MOST}) {
            idle("boxes(6, 25, 6, 8, " + what + ")", -100, y -> y.boxes(6, 25, 6, 8, true, what));
        }

        tables();

        says(32, "DUG, from a CIRCLE with STEP 8: NONE if one can't be, or there is none.");
        for (int v : new int[] {1, 5, 12, -1, -88}) {
            SlopeJudge d = slope();
            d.dig(4, v);
            due("dug(4, " + v + ")", slope().dug(4, v, 10, 24, 12, true), d.boxes(10, 24, 12, 8, true, 0));
        }
        due("it is not that of step 4", slope().dug(4, 1, 10, 60, 12, true), dugBoxes(10, 60, 12, 8));
        for (int v : new int[] {0, 20, 21, -81, LEAST, MOST}) {
            idle("dug(1, " + v + ")", NONE, y -> y.dug(1, v, 6, 25, 6, true));
        }
        for (int c : new int[] {-1, 5, LEAST, MOST}) {
            idle("dug(" + c + ", 1)", NONE, y -> y.dug(c, 1, 6, 25, 6, true));
        }
        for (int[] c : new int[][] {{-51, 25, 10}, {451, 25, 10}, {6, -51, 10}, {6, 451, 10}, {6, 25, 0}, {6, 25, 501}, {400, 400, 1}}) {
            idle("dug(1, 1, " + c[0] + ", " + c[1] + ", " + c[2] + ")", NONE, y -> y.dug(1, 1, c[0], c[1], c[2], true));
        }

        says(0, "In thought (nothing of it stays): DUG: FACTOR of the least safe CIRCLE by BOXES behind a DIG.");
        idle("dug(1, 1)", richDug(1), y -> y.dug(1, 1, 6, 25, 6, true));
        idle("dug(1, 19)", richDug(19), y -> y.dug(1, 19, 6, 25, 6, true));
        idle("dug(1, -80)", richDug(-80), y -> y.dug(1, -80, 6, 25, 6, true));
    }

    private static int dugBoxes(int x, int y, int r, int s) {
        SlopeJudge d = slope();
        d.dig(4, 1);
        int f = d.boxes(x, y, r, s, true, 0);
        return f == -100 ? NONE : f;
    }

    private static int richDug(int v) {
        SlopeJudge d = Edges.rich();
        d.dig(1, v);
        return d.boxes(6, 25, 6, 8, true, 0);
    }

    private static void tables() {
        says(31, "TABLES what 0 k, 1 a, 2 b, 10 and c BASE of COLUMN c (c 0 .. 40; 1, 2, these of the one that is told).");
        String text = "columns 4 1; ground 1*2 2*3; rock 1*2 2*3; load 0 100 0*3; soil 0 1 0 500;";
        SlopeJudge x = Edges.told(text);
        due("k", x.tables(1, true, 0), 500);
        due("a", x.tables(1, true, 1), 1);
        due("b", x.tables(1, true, 2), 2);
        int[] bases = {NONE, 1, 2, NONE, NONE};
        for (int c = 0; c <= 40; c++) {
            due("base " + c, x.tables(1, true, 10 + c), c < 5 ? bases[c] : NONE);
        }
        idle("tables(2, 0)", Edges.rich().tables(2, true, 0), y -> y.tables(2, true, 0));
        SlopeJudge wide = Edges.told("columns 40 1; ground 1*40 2; rock 1*40 2; load 0*39 100 0; soil 0 1 0 500;");
        due("base of 40", wide.tables(1, true, 50), 2);
        due("base of 39", wide.tables(1, true, 49), 1);
        due("b", wide.tables(1, true, 2), 40);

        says(31, "NONE if there is none, t can't be, or another what.");
        for (int what : new int[] {-1, 3, 4, 9, 51, LEAST, MOST}) {
            idle("tables(1, " + what + ")", NONE, y -> y.tables(1, true, what));
            due("tables(1, " + what + ") of 40 columns", wide.tables(1, true, what), NONE);
        }
        for (int t : new int[] {0, 13, -1, LEAST, MOST}) {
            for (int what : new int[] {0, 1, 2, 10, 50}) {
                idle("tables(" + t + ", " + what + ")", NONE, y -> y.tables(t, true, what));
            }
        }
        due("all stand to the right", x.tables(1, false, 0), 20000);
        for (int what : new int[] {1, 2, 10, 11, 12, 50}) {
            due("none is told", x.tables(1, false, what), NONE);
        }
    }

    private static void mirrored() {
        says(33, "MIRRORED: whether there is a SLIP.");
        due("with a slip", Edges.rich().mirror(), true);
        due("without a slip", bare().mirror(), false);
        SlopeJudge none = bare();
        none.mirror();
        due("it is mirrored all the same", none.column(0, 0), 23);
        due("an act", none.look(9), 5);

        says(0, "MIRRORED: COLUMN c of all (LAYERS, LOADS, ANCHORS, too) is what n less c was; a SLIP likewise, it goes the other way.");
        for (int n = 4; n <= 5; n++) {
            SlopeJudge x = Edges.told("columns " + n + " 3;");
            for (int c = 0; c <= n; c++) {
                x.dig(c, -c);
                x.tell(c, 0, 1 + c);
                x.tell(c, 1, 3 + c);
                x.tell(c, 2, 40 + c);
                x.tell(c, 3, 19 - c);
                x.tell(c, 4, 12 - c);
                x.tell(c, 5, 6 - c);
            }
            x.anchor(0, 0, 7, 8);
            x.anchor(3, n - 1, 9, 10);
            x.anchor(5, n, 9, 10);
            Edges.slipped(x, true, 1, 0, 15, 0);
            String before = Edges.ground(x);
            due("mirror()", x.mirror(), true);
            for (int c = 0; c <= n; c++) {
                int was = n - c;
                int[] want = {20 + was, 1 + was, 3 + was, 40 + was, 20 + was, 19 - was, 12 - was, 6 - was};
                for (int what = 0; what < want.length; what++) {
                    due("column(" + c + ", " + what + ") of " + n, x.column(c, what), want[what]);
                }
                due("column(" + c + ", 8) of " + n, x.column(c, 8), was < 1 || was > 3 ? NONE : was == 2 ? 15 : 20 + was);
            }
            due("a", x.look(5), n - 3);
            due("b", x.look(6), n - 1);
            due("right", x.look(7), 0);
            due("anchor 0", x.anchored(0, 0), n);
            due("its height", x.anchored(0, 1), 7);
            due("anchor 3", x.anchored(3, 0), 1);
            due("anchor 5", x.anchored(5, 0), 0);
            due("no other anchor", x.look(3), 41);
            x.mirror();
            Edges.due("twice", Edges.ground(x), before);
        }
        SlopeJudge x = Edges.slipped(new SlopeJudge(), true, 1, 20, 17, 18, 20);
        x.mirror();
        due("points stay", x.look(8), 4);
        due("points(true)", x.points(true), 3);
        due("from where they were", x.look(5), 1);
        due("at the height they had", x.column(2, 8), 17);

        says(34, "BERM (c no greater than d).");
        idle("berm(2, 1, 1)", NONE, y -> y.berm(2, 1, 1));
        idle("berm(4, 0, 1)", NONE, y -> y.berm(4, 0, 1));
        idle("berm(1, 1, 1)", 0, y -> y.berm(1, 1, 1));
        idle("berm(0, 4, 1)", 0, y -> y.berm(0, 4, 1));

        says(34, "NONE if k, a COLUMN can't be, there is no SLIP, or none.");
        for (int k : NO_K) {
            idle("berm(0, 4, " + k + ")", NONE, y -> y.berm(0, 4, k));
        }
        for (int c : new int[] {-1, 5, LEAST, MOST}) {
            idle("berm(" + c + ", 4, 1)", NONE, y -> y.berm(c, 4, 1));
            idle("berm(0, " + c + ", 1)", NONE, y -> y.berm(0, c, 1));
        }
        idleBare("berm(0, 4, 1)", NONE, y -> y.berm(0, 4, 1));
        due("none", Edges.slipped(Edges.told("columns 4 1; load 500*5; quake 500; rock 20*5;"), true, 0, 0, 0).berm(0, 4, 20000), NONE);

        says(0, "BERM of COLUMNS c to d at k: the least v (0 .. 500) by which, each LOAD there v more (beyond 500, too), the SLIP STANDS at k; none.");
        berms();
    }

    /** Two SLICES side by side, both of RUB: the first falls by 1, the second rises by 1 and is pushed by a LOAD at its end. */
    private static SlopeJudge bermed(int load) {
        SlopeJudge x = Edges.told("columns 4 1; ground 10 10 10*3; rock 10 9 10*3; soil 0 1 0 500;");
        x.tell(0, 2, load);
        x.tell(2, 2, 500);
        return Edges.slipped(x, true, 0, 0, 9, 0);
    }

    /** A LOAD at COLUMN 0 alone is on the first SLICE alone. */
    private static int least(int load, int k) {
        for (int v = 0; v <= 500; v++) {
            // WEIGHTS, PUSHES and RUBS as the document has them
            long first = 1 + load + v;
            long second = 1 + 500;
            long pushes = 1000 * (second - first);
            if (k <= 500) {
                return v;
            }
            long rubs = first * 500 * 2 * k / (k - 500) + second * 500 * 2 * k / (k + 500);
            if (1000 * rubs >= k * pushes) {
                return v;
            }
        }
        return NONE;
    }

    private static void berms() {
        int some = 0;
        for (int k : new int[] {1, 500, 501, 1000, 2000, 5000, 10000, 20000}) {
            for (int load : new int[] {0, 1, 100, 300, 499, 500}) {
                int want = least(load, k);
                due("load " + load + ", berm(0, 0, " + k + ")", bermed(load).berm(0, 0, k), want);
                some += want > 0 ? 1 : 0;
            }
        }
        due("some are needed", some > 3, true);
        // 500 at COLUMN 0 and 1000 at COLUMN 2: v at COLUMN 0 beyond 500
        SlopeJudge most = bermed(500);
        most.tell(2, 2, 500);
        most.tell(3, 2, 500);
        due("0 is the least", most.berm(0, 0, 20000), 0);
        // both SLICES level, B 1: LOADS v on COLUMNS 0 and 1 are 3 v of WEIGHT; HOLD 0: they push as much as they rub
        SlopeJudge flat = level("");
        due("no load helps", flat.berm(0, 2, 1001), NONE);
        due("none is needed", flat.berm(0, 2, 1000), 0);
        flat.tell(1, 1, 15);
        // PRESS 150 and v, WEIGHT 200 and v: 1000 times 100 times (300 and 2 v) against k times 100 times (400 and 2 v)
        due("on column 1: both slices", flat.berm(1, 1, 751), berm(2, 751));
        due("on column 0: one slice", flat.berm(0, 0, 751), berm(1, 751));
        due("on columns 0 and 1", flat.berm(0, 1, 751), berm(3, 751));
        due("on all that there are", flat.berm(0, 4, 751), berm(4, 751));
        due("on columns that it has not", flat.berm(3, 4, 751), NONE);
        due("on columns that it has not", flat.berm(3, 4, 750), 0);
        for (int k = 751; k <= 1000; k += 3) {
            due("berm(0, 2, " + k + ")", flat.berm(0, 2, k), berm(4, k));
            due("berm(2, 2, " + k + ")", flat.berm(2, 2, k), berm(1, k));
        }
        due("the load stays", flat.column(1, 3), 0);
        // at 950 LOAD and v have to be 800
        int[][] exact = {{299, NONE}, {300, 500}, {301, 499}, {500, 300}};
        for (int[] e : exact) {
            flat.tell(1, 2, e[0]);
            due("load " + e[0] + ", berm(1, 1, 950)", flat.berm(1, 1, 950), e[1]);
        }
        due("the load stays", flat.column(1, 3), 500);
    }

    private static int berm(int times, int k) {
        for (int v = 0; v <= 500; v++) {
            if (1000L * (300 + times * v) >= (long) k * (400 + times * v)) {
                return v;
            }
        }
        return NONE;
    }

    private static void shaped() {
        says(35, "NONE without one, or for another what.");
        SlopeJudge x = Edges.rich();
        // GROUND less BASE 0 3 6 5 0
        int[] want = {3 * 2 * 14, 6, 2, 16, 2, 0};
        for (int what = 0; what < 6; what++) {
            int last = what;
            due("shape(" + what + ")", x.shape(what), want[what]);
            idle("shape(" + what + ")", want[what], y -> y.shape(last));
            idleBare("shape(" + what + ")", NONE, y -> y.shape(last));
        }
        for (int what : new int[] {-1, 6, LEAST, MOST}) {
            idle("shape(" + what + ")", NONE, y -> y.shape(what));
        }

        says(35, "Of the SLIP what 0 B times GROUND less BASE of both COLUMNS of all SLICES together, 1 the greatest GROUND less BASE, 2 its COLUMN (of several the first), 3 the least BASE, 4 SLICES with RISE below 0, 5 SLICES of which LIFT is more than WEIGHT.");
        SlopeJudge s = Edges.told("columns 6 1; ground 20*3 5 20*3; water 0*3 100 0*3; soil 0 9 0 0;");
        Edges.slipped(s, true, 1, 0, 0);
        int[] flat = {0, 0, 1, 20, 0, 0};
        for (int what = 0; what < 6; what++) {
            due("two columns: shape(" + what + ")", s.shape(what), flat[what]);
        }
        Edges.slipped(s, true, 0, 0, 15, 15, 0);
        due("of two the first", s.shape(2), 1);
        due("the least base may be at b", s.shape(3), 5);
        due("falling", s.shape(4), 2);
        s.points(false);
        due("falling to the right", s.shape(4), 0);
        Edges.slipped(s, true, 3, 0, 15, 14, 0);
        due("the greatest last", s.shape(2), 5);
        SlopeJudge high = Edges.slipped(Edges.told("columns 4 1; ground 100*5;"), true, 0, 0, 0);
        due("no base is less than 100", high.shape(3), 100);
        SlopeJudge left = Edges.slipped(Edges.told("columns 4 1; ground 3 20*4;"), true, 0, 0, 15, 0);
        due("the least base is at 0", left.shape(3), 3);
        due("the least base may be at a", s.shape(3), 5);
        SlopeJudge light = Edges.told("columns 4 1; ground 10 20 10*3; water 0 20 0*3; soil 0 10 0 0;");
        Edges.slipped(light, true, 0, 0, 10, 0);
        due("lift as weight", light.shape(5), 0);
        light.soil(0, 9, 0, 0);
        due("lift more than weight", light.shape(5), 2);
        light.tell(2, 2, 10);
        due("of one of them", light.shape(5), 1);
    }

    private static void thrusts() {
        says(36, "THRUST behind the i-th SLICE (k 1 .. 20000).");
        SlopeJudge x = level("");
        due("k 1", x.thrust(0, 1), 20 - 20000);
        due("k 20000", x.thrust(1, 20000), 2 * (400000 - 20000));

        says(36, "NONE - 9999999999999999 if one up to it is FAST, one can't be, or there is none such.");
        for (int k : NO_K) {
            idle("thrust(0, " + k + ")", Edges.NO_THRUST, y -> y.thrust(0, k));
        }
        for (int i : new int[] {-1, 4, LEAST, MOST}) {
            idle("thrust(" + i + ", 1000)", Edges.NO_THRUST, y -> y.thrust(i, 1000));
        }
        idleBare("thrust(0, 1000)", Edges.NO_THRUST, y -> y.thrust(0, 1000));
        // FAST up to 1000 is the first SLICE to the left, the last to the right
        SlopeJudge f = Edges.slipped(Edges.told("columns 4 1; soil 0 1 0 500;"), true, 0, 20, 18, 18, 20);
        for (int i = 0; i < 3; i++) {
            due("the first is fast: thrust(" + i + ", 1000)", f.thrust(i, 1000), Edges.NO_THRUST);
            due("none is fast: thrust(" + i + ", 1001)", f.thrust(i, 1001) > Edges.NO_THRUST, true);
        }
        f.points(false);
        due("none up to it is fast", f.thrust(0, 1000) > Edges.NO_THRUST, true);
        due("none up to it is fast", f.thrust(1, 1000) > Edges.NO_THRUST, true);
        due("it is fast", f.thrust(2, 1000), Edges.NO_THRUST);
        due("it is not fast", f.thrust(2, 1001) > Edges.NO_THRUST, true);

        says(37, "CREST.");
        due("k 1", x.crest(1), 0);
        due("k 20000", x.crest(20000), 1);

        says(37, "NONE if a SLICE is FAST, k can't be, or there is no SLIP.");
        due("the last is fast", f.crest(1000), NONE);
        due("none is fast", f.crest(1001) >= 0, true);
        f.points(true);
        due("the first is fast", f.crest(1000), NONE);
        due("none is fast", f.crest(1001) >= 0, true);
        for (int k : NO_K) {
            idle("crest(" + k + ")", NONE, y -> y.crest(k));
        }
        idleBare("crest(20000)", NONE, y -> y.crest(20000));
    }

    private static void deepAndScan() {
        says(38, "DEEP.");
        SlopeJudge x = slope();
        int as = x.boxes(10, 24, 12, 8, true, 0);
        due("there is one", x.deep(4, as, 10, 24, 12, true) != NONE, true);
        due("k 1", x.deep(10, 1, 10, 24, 12, true), 5);
        due("k 20000", x.deep(0, 20000, 400, 400, 1, true), 5);
        idle("deep(0, 1, 400, 400, 1)", 5, y -> y.deep(0, 1, 400, 400, 1, true));

        says(38, "NONE if there is none, no such COLUMN, CIRCLE, or k can't be.");
        due("there is none", x.deep(4, as + 1, 10, 24, 12, true), NONE);
        for (int c : new int[] {-1, 5, LEAST, MOST}) {
            idle("deep(" + c + ", 1)", NONE, y -> y.deep(c, 1, 400, 400, 1, true));
        }
        for (int k : NO_K) {
            idle("deep(0, " + k + ")", NONE, y -> y.deep(0, k, 400, 400, 1, true));
        }
        for (int[] c : new int[][] {{-51, 25, 10}, {451, 25, 10}, {6, -51, 10}, {6, 451, 10}, {6, 25, 0}, {6, 25, 501}}) {
            idle("deep(0, 1, " + c[0] + ", " + c[1] + ", " + c[2] + ")", NONE, y -> y.deep(0, 1, c[0], c[1], c[2], true));
        }

        says(39, "SCAN (s 1 .. 64) what 0 how many, 1 of how many FACTOR is below k.");
        SlopeJudge s = slope();
        int tried = s.tried(10, 24, 12, true);
        int[] counts = new int[2];
        for (int i = 0; i < 125; i++) {
            int f = s.tried(10 + (i / 25 - 2), 24 + (i / 5 % 5 - 2), 12 + (i % 5 - 2), true);
            counts[0] += f == NONE ? 0 : 1;
            counts[1] += f != NONE && f < tried ? 1 : 0;
        }
        due("how many", s.scan(10, 24, 12, 1, true, tried, 0), counts[0]);
        due("below k, not at it", s.scan(10, 24, 12, 1, true, tried, 1), counts[1]);
        due("one more is below k + 1", s.scan(10, 24, 12, 1, true, tried + 1, 1) > counts[1], true);
        due("none is below 1", s.scan(10, 24, 12, 1, true, 1, 1), 0);
        due("k 20000", s.scan(10, 24, 12, 1, true, 20000, 0), counts[0]);
        due("at 20000 is not below it", new SlopeJudge().scan(40, 25, 10, 1, true, 20000, 1), 0);
        due("s 64", s.scan(10, 24, 12, 64, true, 1, 0), 1);
        due("a circle in its midst that does not cut", s.scan(10, 60, 12, 64, true, 1, 0) >= 0, true);
        due("none cuts", s.scan(400, 400, 1, 1, true, 1, 0), 0);
        idle("scan", Edges.rich().scan(6, 25, 6, 1, true, 1000, 0), y -> y.scan(6, 25, 6, 1, true, 1000, 0));

        says(39, "NONE if one can't be (the CIRCLE in its midst, k), or another what.");
        for (int what = 0; what < 2; what++) {
            int last = what;
            for (int[] c : new int[][] {{-51, 25, 10, 1}, {451, 25, 10, 1}, {6, -51, 10, 1}, {6, 451, 10, 1}, {6, 25, 0, 1}, {6, 25, 501, 1},
                {6, 25, 10, 0}, {6, 25, 10, 65}, {6, 25, 10, -1}, {LEAST, 25, 10, 1}, {6, MOST, 10, 1}, {6, 25, LEAST, 1}, {6, 25, 10, LEAST},
                {6, 25, 10, MOST}}) {
                idle("scan(" + c[0] + ", " + c[1] + ", " + c[2] + ", " + c[3] + ", " + what + ")", NONE,
                        y -> y.scan(c[0], c[1], c[2], c[3], true, 1000, last));
            }
            for (int k : NO_K) {
                idle("scan at " + k + ", " + what, NONE, y -> y.scan(6, 25, 6, 1, true, k, last));
            }
        }
        for (int what : new int[] {-1, 2, LEAST, MOST}) {
            idle("scan " + what, NONE, y -> y.scan(6, 25, 6, 1, true, 1000, what));
        }
    }

    private static void chances() {
        says(40, "STATE is told: what it was.");
        SlopeJudge x = new SlopeJudge();
        due("state(least)", x.state(LEAST), 0);
        due("state(most)", x.state(MOST), LEAST);
        due("state(-1)", x.state(-1), MOST);
        due("look(13)", x.look(13), -1);
        due("state(0)", x.state(0), -1);
        due("look(13)", x.look(13), 0);

        says(41, "CHANCE (n 1 .. 40, w 0 .. 50).");
        due("n 1, w 0", level("").chance(1, 0, 1000), 0);
        due("n 40, w 0", level("").chance(40, 0, 1001), 40);
        due("w 50", level("").chance(40, 50, 500), 0);
        due("k 1", level("").chance(40, 50, 1), 0);
        due("k 20000", level("").chance(40, 50, 20000), 40);
        SlopeJudge now = level("");
        now.soil(0, 20, 0, 200);
        now.quake(200);
        due("as it is now", now.chance(9, 0, 1000), 0);
        due("as it is now", now.chance(9, 0, 1001), 9);

        says(41, "NONE, and no DRAW, if one can't be, or there is no SLIP.");
        for (int n : new int[] {0, 41, -1, LEAST, MOST}) {
            idle("chance(" + n + ", 0, 1000)", NONE, y -> y.chance(n, 0, 1000));
        }
        for (int w : new int[] {-1, 51, LEAST, MOST}) {
            idle("chance(1, " + w + ", 1000)", NONE, y -> y.chance(1, w, 1000));
        }
        for (int k : NO_K) {
            idle("chance(1, 0, " + k + ")", NONE, y -> y.chance(1, 0, k));
        }
        idleBare("chance(1, 0, 1000)", NONE, y -> y.chance(1, 0, 1000));
    }

    private static void reports() {
        says(42, "A REPORT is chosen: how many signs.");
        SlopeJudge x = level("");
        due("report()", x.report(), 11);
        Edges.due("it is", Edges.reported(x), "1.000 0-2 L");

        says(42, "NONE, none being chosen, without a SLIP.");
        x.tell(0, 0, 0);
        due("without a slip", x.report(), NONE);
        due("none is chosen", x.sign(0), NONE);
        due("none at all", new SlopeJudge().report(), NONE);

        says(43, "Sign i of the chosen REPORT (as it was then), as a byte.");
        SlopeJudge y = level("");
        y.report();
        int[] signs = {49, 46, 48, 48, 48, 32, 48, 45, 50, 32, 76};
        for (int i = 0; i < signs.length; i++) {
            due("sign(" + i + ")", y.sign(i), signs[i]);
        }
        y.quake(500);
        y.points(false);
        y.tell(0, 0, 0);
        y.size(40, 1);
        y.undo();
        y.mirror();
        Edges.due("as it was then", Edges.reported(y), "1.000 0-2 L");
        y.point(NONE, 0);
        y.point(3, 0);
        y.point(4, 0);
        y.points(false);
        y.report();
        Edges.due("another one", Edges.reported(y), "20.000 3-4 R");

        says(43, "NONE if there is none such.");
        SlopeJudge z = level("");
        due("none is chosen yet", z.sign(0), NONE);
        z.report();
        due("the last sign", z.sign(10), 'L');
        for (int i : new int[] {-1, 11, 12, 15, 16, LEAST, MOST}) {
            due("sign(" + i + ")", z.sign(i), NONE);
        }
        y.point(NONE, 0);
        y.point(1, 0);
        y.point(2, 0);
        y.points(true);
        y.soil(0, 20, 0, 0);
        y.tell(1, 2, 100);
        due("a shorter one", y.report(), 11);
        Edges.due("it is", Edges.reported(y), "0.000 1-2 L");
        due("nothing of the longer one ahead", y.sign(11), NONE);
    }

    private static void images() {
        says(44, "THE IMAGE is taken (true), or gone back to (false): true; false if there is none.");
        due("there is none", new SlopeJudge().image(false), false);
        Edges.Maker none = () -> {
            SlopeJudge y = level("");
            y.point(NONE, 0);
            return y;
        };
        Edges.idle("image(false) of none", none, y -> Edges.bit(y.image(false)), 0);
        idle("image(true)", 1, y -> Edges.bit(y.image(true)));

        says(0, "THE IMAGE: all that is and was told, POINTS, the SLIP, too, but THE TAPE, fault(), as it was when it was taken; gone back to it may be more than once (no ACTS are left then).");
        SlopeJudge x = Edges.rich();
        x.image(true);
        due("acts stay when it is taken", x.look(9), 4);
        String ground = Edges.ground(x);
        String tops = x.column(1, 5) + " " + x.column(1, 6);
        for (int times = 0; times < 2; times++) {
            if (times == 0) {
                x.size(9, 9);
                x.circle(40, 25, 10, false);
            } else {
                x.dig(1, 3);
                x.quake(4);
            }
            x.state(12 + times);
            x.point(NONE, 0);
            x.text();
            Edges.put(x, "columns 5");
            x.end(7);
            x.text();
            Edges.put(x, "abc");
            due("gone back to", x.image(false), true);
            Edges.due("the ground", Edges.ground(x), ground);
            due("points", x.look(8), 5);
            due("acts", x.look(9), 0);
            due("none can be undone", x.undo(), NONE);
            due("the tape as it is", x.look(10), 3);
            due("the fault as it is", x.fault(0) * 100 + x.fault(1), 107);
            due("state", x.look(13), -77);
            x.end(0);
            due("points as they were", x.points(false), 4);
            due("their bases", x.column(2, 8), 16);
            x.points(true);
            Edges.due("the ground", Edges.ground(x), ground);
        }
        Edges.due("tops as told", x.column(1, 5) + " " + x.column(1, 6), tops);
        x.dig(1, -50);
        due("tops as told, above ground too", x.column(1, 6), 15);
        SlopeJudge again = level("");
        again.image(true);
        again.quake(7);
        again.image(true);
        again.quake(8);
        due("gone back to", again.image(false), true);
        due("the latest one", again.look(2), 7);
        SlopeJudge twelve = new SlopeJudge();
        for (int c = 0; c < 11; c++) {
            twelve.point(c, 19 - c % 2);
        }
        twelve.point(13, 13);
        twelve.image(true);
        twelve.point(NONE, 0);
        for (int c = 3; c < 15; c++) {
            twelve.point(c, 5);
        }
        twelve.image(false);
        due("the points as they were", twelve.points(true), 13);
        int[] bases = {20, 18, 19, 18, 19, 18, 19, 18, 19, 18, 19, 17, 15, 20};
        for (int c = 0; c < bases.length; c++) {
            due("base " + c + " of the points as they were", twelve.column(c, 8), bases[c]);
        }
        due("12 as they were", twelve.point(20, 5), NONE);
        SlopeJudge wide = wide();
        String whole = Edges.ground(wide);
        wide.image(true);
        wide.size(40, 1);
        wide.image(false);
        Edges.due("40 columns", Edges.ground(wide), whole);
        SlopeJudge later = level("");
        later.dig(3, 1);
        later.image(true);
        later.dig(3, 1);
        later.image(false);
        later.dig(3, 2);
        due("acts behind it can be undone", later.undo(), 0);
        due("ground", later.column(3, 0), 9);
        due("no more", later.undo(), NONE);
    }

    private static void looks() {
        says(45, "What 0 n, 1 B, 2 QUAKE, 3 ANCHORS that are told (a set), 4 SLICES of the SLIP (0 without), 5 a (NONE), 6 b (NONE), 7 whether it goes LEFT (1, 0; NONE), 8 POINTS, 9 ACTS that can be undone, 10 bytes on THE TAPE, 11 the greatest GROUND, 12 GROUND less ROCK of all COLUMNS together, 13 STATE (as it is).");
        int[] rich = {4, 3, 100, 36, 4, 0, 4, 1, 5, 4, 12, 24, 99, -77};
        int[] bare = {4, 3, 100, 36, 0, NONE, NONE, NONE, 5, 4, 12, 24, 99, -77};
        SlopeJudge x = Edges.rich();
        SlopeJudge y = bare();
        for (int what = 0; what < 14; what++) {
            due("look(" + what + ")", x.look(what), rich[what]);
            due("look(" + what + ") without a slip", y.look(what), bare[what]);
        }
        x.points(false);
        due("right", x.look(7), 0);
        SlopeJudge low = Edges.told("columns 40 1; ground 0*41;");
        due("the greatest of 0", low.look(11), 0);
        due("nothing together", low.look(12), 0);
        low.dig(40, -100);
        due("the greatest at n", low.look(11), 100);
        due("together", low.look(12), 100);
        low.tell(40, 0, 99);
        due("together", low.look(12), 1);
        SlopeJudge high = Edges.told("columns 40 1; ground 100*41;");
        due("all together", high.look(12), 4100);
        due("the greatest at 0", Edges.told("columns 4 1; ground 77 20*4;").look(11), 77);
        high.size(4, 1);
        due("columns that there are not don't count", high.look(12), 100);
        due("nor for the greatest", high.look(11), 20);

        says(45, "NONE - 9 for another what.");
        for (int what : new int[] {-1, 14, 15, LEAST, MOST}) {
            idle("look(" + what + ")", -10, z -> z.look(what));
        }
    }

    public static void main(String[] args) {
        begun();
        told();
        dug();
        slips();
        undone();
        askedGround();
        askedSlip();
        borne();
        circles();
        mirrored();
        shaped();
        thrusts();
        deepAndScan();
        chances();
        reports();
        images();
        looks();
        Edges.end();
    }
}
