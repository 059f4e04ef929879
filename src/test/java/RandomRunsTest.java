import java.util.Random;

/** Runs of calls by chance (always the same ones), every answer held against the Model's. */
public final class RandomRunsTest {
    private static final int RUNS = 800;
    private static final int CALLS = 300;
    private static int wrong = 0;
    private static long asked = 0;

    private final Random chance;
    private final SlopeJudge x = new SlopeJudge();
    private final Model m = new Model();
    private final StringBuilder trail = new StringBuilder();
    /** Small grounds let the Model look at every SLIP of TABLES. */
    private final boolean small;

    private RandomRunsTest(int seed) {
        chance = new Random(seed);
        small = seed % 2 == 0;
    }

    private static long of(boolean b) {
        return b ? 1 : 0;
    }

    private void due(String call, long got, long want) {
        asked++;
        trail.append(call).append(" = ").append(want).append('\n');
        if (got != want) {
            wrong++;
            if (wrong < 5) {
                System.out.println(trail + "  but answered " + got);
            }
        }
    }

    private int from(int least, int most) {
        return least + chance.nextInt(most - least + 1);
    }

    /** Mostly from least to most, now and then at or beyond an edge. */
    private int near(int least, int most) {
        switch (chance.nextInt(40)) {
            case 0: return least;
            case 1: return most;
            case 2: return least - 1;
            case 3: return most + 1;
            case 4: return chance.nextInt();
            case 5: return chance.nextBoolean() ? Integer.MIN_VALUE : Integer.MAX_VALUE;
            default: return from(least, most);
        }
    }

    private int col() {
        return near(0, m.w.n);
    }

    private int k() {
        return chance.nextInt(3) == 0 ? near(1, 20000) : near(1, 3000);
    }

    private int height() {
        return small ? near(0, 9) : near(0, 100);
    }

    private int cx() {
        return chance.nextInt(8) == 0 ? near(-50, 450) : near(-10, m.w.n * m.w.b + 10);
    }

    private int cy() {
        return chance.nextInt(8) == 0 ? near(-50, 450) : near(5, 120);
    }

    private int cr() {
        return chance.nextInt(8) == 0 ? near(1, 500) : near(3, 90);
    }

    private void feedText(String t) {
        // what is left on the tape, if anything, is at times a part of the text
        if (chance.nextInt(4) != 0 || m.look(10) + t.length() > 580) {
            due("end(0)", of(x.end(0)), of(m.end(0)));
        }
        int was = m.look(10);
        for (int at = 0; at < t.length(); at += 20) {
            int[] v = new int[5];
            for (int i = 0; i < 20; i++) {
                int letter = at + i < t.length() ? t.charAt(at + i) : 0;
                v[i / 4] = v[i / 4] << 8 | letter;
            }
            due("feed(" + v[0] + ", ..)", x.feed(v[0], v[1], v[2], v[3], v[4]), m.feed(v));
        }
        due("end(" + (was + t.length()) + ")", of(x.end(was + t.length())), of(m.end(was + t.length())));
        due("text() of \"" + t + "\"", x.text(), m.text());
        due("fault(0)", x.fault(0), m.fault(0));
        due("fault(1)", x.fault(1), m.fault(1));
        due("look(10) behind text()", x.look(10), 0);
    }

    private String row(int n, int least, int most) {
        StringBuilder b = new StringBuilder();
        int left = n + 1;
        int v = from(least, most);
        while (left > 0) {
            int times = from(1, Math.min(left, 5));
            if (chance.nextInt(60) == 0) {
                times = from(0, 6);
            }
            b.append(' ').append(v);
            if (times != 1 || chance.nextInt(4) == 0) {
                b.append(chance.nextInt(5) == 0 ? " * " : "*").append(times);
            }
            left -= Math.max(times, 1);
            v = Math.max(least, Math.min(most, v + from(-4, 4)));
        }
        return b.toString();
    }

    private String makeText() {
        int n = small ? from(4, 5) : from(4, chance.nextInt(3) == 0 ? 40 : 20);
        StringBuilder b = new StringBuilder("columns " + n + " " + from(1, chance.nextBoolean() ? 3 : 10) + ";");
        int most = small ? 6 : 60;
        b.append("ground").append(row(n, small ? 3 : 15, most)).append(';');
        String[] rows = {"rock", "water", "top 1", "top 2", "top 3", "load"};
        for (String r : rows) {
            if (chance.nextInt(3) == 0) {
                int high = r.equals("rock") ? small ? 3 : 15 : r.equals("load") ? 100 : most;
                b.append(r).append(row(n, 0, high)).append(';');
            }
        }
        for (int l = 0; l < 4; l++) {
            if (chance.nextInt(2) == 0) {
                b.append("soil " + l + " " + from(1, 30) + " " + from(0, chance.nextBoolean() ? 5 : 60) + " "
                        + from(0, 1500) + ";");
            }
        }
        if (chance.nextInt(3) == 0) {
            b.append(" quake " + from(0, 500) + " ;");
        }
        if (chance.nextInt(2) == 0) {
            b.append("anchor" + from(0, 5) + " " + from(0, n) + " " + from(0, 60) + " " + from(1, 500) + "; ");
        }
        return b.length() > 600 ? b.substring(0, 600) : b.toString();
    }

    private String spoil(String t) {
        StringBuilder b = new StringBuilder(t);
        int at = chance.nextInt(b.length() + 1);
        String[] bits = {";", "*", " ", "0", "9", "101", "x", "ground", "top 1 5*41;", "soil 0 1 1 1;", "\u00e9", "A",
            "columns", "99999999999999999999", "quake 5;", "-", "rock 100*5;"};
        switch (chance.nextInt(4)) {
            case 0: return b.substring(0, at);
            case 1: return at < b.length() ? b.deleteCharAt(at).toString() : t;
            case 2: return b.insert(at, bits[chance.nextInt(bits.length)]).toString();
            default:
                int semi = t.indexOf(';', at);
                return semi < 0 ? t : b.insert(semi + 1, bits[chance.nextInt(bits.length)]).toString();
        }
    }

    private void textCall() {
        String t = makeText();
        if (chance.nextInt(2) == 0) {
            t = spoil(t);
        }
        feedText(t.length() > 600 ? t.substring(0, 600) : t);
    }

    private void tellCalls() {
        int a = 0;
        int b = 0;
        int c = 0;
        int d = 0;
        switch (chance.nextInt(9)) {
            case 0:
                if (small) {
                    return;
                }
                a = near(4, 40);
                b = near(1, 10);
                due("size(" + a + ", " + b + ")", of(x.size(a, b)), of(m.size(a, b)));
                break;
            case 1:
            case 2:
                a = col();
                b = near(0, 5);
                c = b == 2 ? near(0, 500) : height();
                due("tell(" + a + ", " + b + ", " + c + ")", of(x.tell(a, b, c)), of(m.tell(a, b, c)));
                break;
            case 3:
            case 4:
                a = col();
                b = small ? near(-1, 3) : near(-20, 20);
                if (small && Model.in(a, 0, m.w.n) && (long) m.w.ground[a] - b > 8) {
                    return;
                }
                due("dig(" + a + ", " + b + ")", x.dig(a, b), m.dig(a, b));
                break;
            case 5:
            case 6:
                a = near(0, 3);
                b = near(1, 30);
                c = chance.nextBoolean() ? near(0, 5) : near(0, 200);
                d = near(0, 1500);
                due("soil(" + a + ", " + b + ", " + c + ", " + d + ")", of(x.soil(a, b, c, d)), of(m.soil(a, b, c, d)));
                break;
            case 7:
                a = near(0, 500);
                due("quake(" + a + ")", of(x.quake(a)), of(m.quake(a)));
                break;
            default:
                a = near(0, 5);
                b = col();
                c = height();
                d = chance.nextInt(3) == 0 ? 0 : near(1, 500);
                due("anchor(" + a + ", " + b + ", " + c + ", " + d + ")", of(x.anchor(a, b, c, d)),
                        of(m.anchor(a, b, c, d)));
        }
    }

    private void slipCalls() {
        boolean left = chance.nextBoolean();
        switch (chance.nextInt(5)) {
            case 0:
            case 1:
                int cx = cx();
                int cy = cy();
                int cr = cr();
                due("circle(" + cx + ", " + cy + ", " + cr + ", " + left + ")", x.circle(cx, cy, cr, left),
                        m.circle(cx, cy, cr, left));
                break;
            case 2:
                int many = from(2, 4);
                due("point(-1, 7)", x.point(-1, 7), m.point(-1, 7));
                int at = from(0, 2);
                for (int i = 0; i < many; i++) {
                    int h = Model.in(at, 0, m.w.n) ? Math.max(0, m.w.ground[at] - from(0, 12)) : height();
                    due("point(" + at + ", " + h + ")", x.point(at, h), m.point(at, h));
                    at += from(1, 5);
                }
                due("points(" + left + ")", x.points(left), m.points(left));
                break;
            case 3:
                int c = col();
                int h = height();
                due("point(" + c + ", " + h + ")", x.point(c, h), m.point(c, h));
                due("points(" + left + ")", x.points(left), m.points(left));
                break;
            default:
                if (small) {
                    int t = near(1, 4);
                    due("worst(" + t + ", " + left + ")", x.worst(t, left), m.worst(t, left));
                }
        }
    }

    private void askSlip() {
        int k = k();
        int i = near(0, Math.max(1, m.look(4)));
        int what = near(0, 8);
        due("slice(" + i + ", " + what + ")", x.slice(i, what), m.slice(i, what));
        due("rubs(" + i + ", " + k + ")", x.rubs(i, k), m.rubs(i, k));
        due("thrust(" + i + ", " + k + ")", x.thrust(i, k), m.thrust(i, k));
        due("stands(" + k + ")", x.stands(k), m.stands(k));
        due("sum(" + what + ")", x.sum(what), m.sum(what));
        due("shape(" + what + ")", x.shape(what), m.shape(what));
        due("crest(" + k + ")", x.crest(k), m.crest(k));
        due("look(" + (what + 4) + ")", x.look(what + 4), m.look(what + 4));
        due("factor()", x.factor(), m.factor());
        int f = m.factor();
        int near = f == SlopeJudge.NONE ? k : Math.max(1, Math.min(20000, f + from(-1, 200)));
        switch (chance.nextInt(7)) {
            case 0:
                due("dry()", x.dry(), m.dry());
                break;
            case 1:
                due("bears(" + near + ")", x.bears(near), m.bears(near));
                break;
            case 2:
                due("needs(" + near + ")", x.needs(near), m.needs(near));
                break;
            case 3:
                due("pull(" + near + ")", x.pull(near), m.pull(near));
                break;
            case 4:
                int c = col();
                int d = chance.nextInt(5) == 0 ? col() : m.w.n;
                due("berm(" + c + ", " + d + ", " + near + ")", x.berm(c, d, near), m.berm(c, d, near));
                break;
            case 5:
                int n = near(1, 40);
                int w = near(0, 50);
                due("chance(" + n + ", " + w + ", " + near + ")", x.chance(n, w, near), m.chance(n, w, near));
                break;
            default:
                due("report()", x.report(), m.report());
        }
    }

    private void askGround() {
        int c = col();
        for (int what = -1; what < 10; what++) {
            due("column(" + c + ", " + what + ")", x.column(c, what), m.column(c, what));
        }
        int i = near(0, 5);
        for (int what = -1; what < 5; what++) {
            due("anchored(" + i + ", " + what + ")", x.anchored(i, what), m.anchored(i, what));
            due("layer(" + i + ", " + what + ")", x.layer(i, what), m.layer(i, what));
        }
        for (int what = -1; what < 15; what++) {
            due("look(" + what + ")", x.look(what), m.look(what));
            due("sign(" + what + ")", x.sign(what), m.sign(what));
        }
    }

    private void askCircles() {
        boolean left = chance.nextBoolean();
        int cx = cx();
        int cy = cy();
        int cr = cr();
        int k = k();
        String at = cx + ", " + cy + ", " + cr + ", " + left;
        due("tried(" + at + ")", x.tried(cx, cy, cr, left), m.tried(cx, cy, cr, left));
        if (chance.nextInt(small ? 2 : 12) > 0) {
            return;
        }
        int s = chance.nextBoolean() ? near(1, 64) : near(1, 8);
        int c = col();
        int v = near(-5, 5);
        switch (chance.nextInt(4)) {
            case 0:
                int[] hand = Model.circleCan(cx, cy, cr) && Model.in(s, 1, 64) ? m.w.boxes(cx, cy, cr, s, left) : null;
                int[] order = {3, 0, 1, 2, 4};
                for (int what = 0; what < 5; what++) {
                    due("boxes(" + at + ", step " + s + ", " + what + ")", x.boxes(cx, cy, cr, s, left, what),
                            hand == null ? -100 : hand[order[what]]);
                }
                due("boxes(.., 5)", x.boxes(cx, cy, cr, s, left, 5), -100);
                break;
            case 1:
                due("dug(" + c + ", " + v + ", " + at + ")", x.dug(c, v, cx, cy, cr, left),
                        m.dug(c, v, cx, cy, cr, left));
                break;
            case 2:
                due("deep(" + c + ", " + k + ", " + at + ")", x.deep(c, k, cx, cy, cr, left),
                        m.deep(c, k, cx, cy, cr, left));
                break;
            default:
                for (int what = 0; what < 2; what++) {
                    due("scan(" + at + ", step " + s + ", " + k + ", " + what + ")",
                            x.scan(cx, cy, cr, s, left, k, what), m.scan(cx, cy, cr, s, left, k, what));
                }
        }
    }

    private void askTables() {
        if (!small || m.w.n > 6) {
            return;
        }
        boolean left = chance.nextBoolean();
        int t = near(1, 5);
        Model.Slip[] found = new Model.Slip[1];
        int k = Model.in(t, 1, 12) ? m.w.tables(t, left, found) : SlopeJudge.NONE;
        for (int what = -1; what < 18; what++) {
            int want = what == 0 ? k : found[0] == null ? SlopeJudge.NONE : Model.told(found[0], what);
            due("tables(" + t + ", " + left + ", " + what + ")", x.tables(t, left, what), want);
        }
    }

    private void step() {
        switch (chance.nextInt(14)) {
            case 0:
            case 1:
            case 2:
                tellCalls();
                break;
            case 3:
            case 4:
            case 5:
                slipCalls();
                break;
            case 6:
            case 7:
            case 8:
                askSlip();
                break;
            case 9:
                askGround();
                break;
            case 10:
                askCircles();
                break;
            case 11:
                if (chance.nextInt(4) == 0) {
                    textCall();
                } else {
                    askTables();
                }
                break;
            case 12:
                if (!small || m.look(9) > 0 && m.acts.get(m.acts.size() - 1).n < 6) {
                    due("undo()", x.undo(), m.undo());
                }
                break;
            default:
                otherCalls();
        }
    }

    private void otherCalls() {
        switch (chance.nextInt(4)) {
            case 0:
                due("mirror()", of(x.mirror()), of(m.mirror()));
                break;
            case 1:
                boolean taken = chance.nextBoolean();
                due("image(" + taken + ")", of(x.image(taken)), of(m.image(taken)));
                break;
            case 2:
                int v = chance.nextInt();
                due("state(" + v + ")", x.state(v), m.state(v));
                break;
            default:
                int n = near(0, 20);
                due("end(" + n + ")", of(x.end(n)), of(m.end(n)));
                due("feed", x.feed(n, v(), 3, 4, 5), m.feed(n, 77, 3, 4, 5));
        }
    }

    private static int v() {
        return 77;
    }

    private void run() {
        if (small) {
            feedText("columns 4 2; ground 4 5 6 6 5;");
            m.image(true);
            x.image(true);
        }
        for (int i = 0; i < CALLS; i++) {
            step();
        }
    }

    public static void main(String[] args) {
        int runs = args.length > 0 ? Integer.parseInt(args[0]) : RUNS;
        int start = args.length > 1 ? Integer.parseInt(args[1]) : 0;
        for (int seed = start; seed < start + runs && wrong == 0; seed++) {
            new RandomRunsTest(seed).run();
        }
        System.out.println(asked + " answers by chance, " + wrong + " wrong");
        if (wrong != 0) {
            System.exit(1);
        }
    }
}
