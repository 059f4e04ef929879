import java.math.BigInteger;
import java.util.ArrayList;
import java.util.Arrays;
import java.util.HashSet;
import java.util.List;
import java.util.Set;

/**
 * The document once more, as slowly and plainly as it can be written: whole numbers without a bound,
 * every SLIP of TABLES looked at one by one. Tests hold SlopeJudge's answers against it.
 */
final class Model {
    static final int NONE = -1;

    static final class Slip {
        int a;
        int b;
        boolean left;
        int[] base;

        Slip copy() {
            Slip s = new Slip();
            s.a = a;
            s.b = b;
            s.left = left;
            s.base = base.clone();
            return s;
        }
    }

    static final class World {
        int n;
        int b;
        int quake;
        int[] ground;
        int[] rock;
        int[] water;
        int[] load;
        int[][] told = new int[4][];
        int[][] soil = {{20, 10, 300}, {20, 10, 300}, {20, 10, 300}, {20, 10, 300}};
        int[][] anchors = new int[6][];
        Slip slip;

        World(int n, int b) {
            this.n = n;
            this.b = b;
            ground = new int[n + 1];
            Arrays.fill(ground, 20);
            rock = new int[n + 1];
            water = new int[n + 1];
            load = new int[n + 1];
            for (int l = 1; l < 4; l++) {
                told[l] = new int[n + 1];
            }
        }

        World copy() {
            World w = new World(n, b);
            w.quake = quake;
            w.ground = ground.clone();
            w.rock = rock.clone();
            w.water = water.clone();
            w.load = load.clone();
            for (int l = 0; l < 4; l++) {
                w.told[l] = l == 0 ? null : told[l].clone();
                w.soil[l] = soil[l].clone();
            }
            for (int i = 0; i < 6; i++) {
                w.anchors[i] = anchors[i] == null ? null : anchors[i].clone();
            }
            w.slip = slip == null ? null : slip.copy();
            return w;
        }

        int water(int c) {
            return water[c] > ground[c] ? ground[c] : water[c];
        }

        int top(int l, int c) {
            return l == 0 ? ground[c] : Math.min(top(l - 1, c), told[l][c]);
        }

        /** Metre by metre: what of base .. ground lies in the layer. */
        int thick(int l, int c, int base) {
            int all = 0;
            for (int h = base; h < ground[c]; h++) {
                boolean below = h < top(l, c);
                boolean above = l == 3 || h >= top(l + 1, c);
                if (below && above) {
                    all++;
                }
            }
            return all;
        }

        int rise(Slip s, int c) {
            int rise = s.base[c + 1] - s.base[c];
            return s.left ? rise : -rise;
        }

        int weight(Slip s, int c) {
            int all = load[c] + load[c + 1];
            for (int l = 0; l < 4; l++) {
                all += soil[l][0] * (thick(l, c, s.base[c]) + thick(l, c + 1, s.base[c + 1]));
            }
            return b * all;
        }

        int lift(Slip s, int c) {
            return 10 * b * (Math.max(0, water(c) - s.base[c]) + Math.max(0, water(c + 1) - s.base[c + 1]));
        }

        int press(Slip s, int c) {
            return Math.max(0, weight(s, c) - lift(s, c));
        }

        int layer(Slip s, int c) {
            int last = 0;
            for (int l = 0; l < 4; l++) {
                if (top(l, c) + top(l, c + 1) > s.base[c] + s.base[c + 1]) {
                    last = l;
                }
            }
            return last;
        }

        long strength(Slip s, int c) {
            int l = layer(s, c);
            return 2000L * soil[l][1] * b + (long) press(s, c) * soil[l][2];
        }

        long push(Slip s, int c) {
            return weight(s, c) * (1000L * rise(s, c) + (long) quake * b);
        }

        /** null: FAST. */
        BigInteger rubs(Slip s, int c, int k) {
            long d = (long) b * k + (long) rise(s, c) * soil[layer(s, c)][2];
            if (d <= 0) {
                return null;
            }
            return BigInteger.valueOf(strength(s, c))
                    .multiply(BigInteger.valueOf((long) b * b + (long) rise(s, c) * rise(s, c)))
                    .multiply(BigInteger.valueOf(k)).divide(BigInteger.valueOf(d));
        }

        boolean counts(int i, Slip s) {
            int[] x = anchors[i];
            return x != null && s != null && x[0] >= s.a && x[0] < s.b && x[1] > s.base[x[0]];
        }

        long pulls(Slip s) {
            long all = 0;
            for (int i = 0; i < 6; i++) {
                all += counts(i, s) ? 2000L * b * anchors[i][2] : 0;
            }
            return all;
        }

        /** 1000 times all RUBS less k times (all PUSHES less pulls); null: a SLICE is FAST. */
        BigInteger over(Slip s, int k, long pulls) {
            BigInteger rubs = BigInteger.ZERO;
            BigInteger pushes = BigInteger.valueOf(-pulls);
            for (int c = s.a; c < s.b; c++) {
                BigInteger one = rubs(s, c, k);
                if (one == null) {
                    return null;
                }
                rubs = rubs.add(one);
                pushes = pushes.add(BigInteger.valueOf(push(s, c)));
            }
            return rubs.multiply(BigInteger.valueOf(1000)).subtract(pushes.multiply(BigInteger.valueOf(k)));
        }

        boolean stands(Slip s, int k, long more) {
            BigInteger over = over(s, k, pulls(s) + more);
            return over == null || over.signum() >= 0;
        }

        int factor(Slip s) {
            int low = 0;
            int high = 20001;
            while (high - low > 1) {
                int m = (low + high) / 2;
                if (stands(s, m, 0)) {
                    low = m;
                } else {
                    high = m;
                }
            }
            return low;
        }

        Slip cut(int x, int y, int r, boolean left) {
            Integer[] arc = new Integer[n + 1];
            for (int c = 0; c <= n; c++) {
                int rest = r * r - (b * c - x) * (b * c - x);
                if (rest >= 0) {
                    int low = Math.max(y - (int) Math.floor(Math.sqrt(rest)), rock[c]);
                    arc[c] = low < ground[c] ? low : null;
                }
            }
            int first = 0;
            while (first <= n && arc[first] == null) {
                first++;
            }
            int behind = first;
            while (behind <= n && arc[behind] != null) {
                behind++;
            }
            if (first == 0 || first > n || behind > n) {
                return null;
            }
            Slip s = new Slip();
            s.a = first - 1;
            s.b = behind;
            s.left = left;
            s.base = new int[n + 1];
            for (int c = first; c < behind; c++) {
                s.base[c] = arc[c];
            }
            s.base[s.a] = ground[s.a];
            s.base[s.b] = ground[s.b];
            return s;
        }

        /** x, y, r, factor, rounds; null: none. */
        int[] boxes(int x, int y, int r, int s, boolean left) {
            Slip own = cut(x, y, r, left);
            int[] hand = {x, y, r, own == null ? NONE : factor(own), 0};
            while (s > 0 && hand[4] < 60) {
                hand[4]++;
                int[] best = null;
                for (int dx = -s; dx <= s; dx += s) {
                    for (int dy = -s; dy <= s; dy += s) {
                        for (int dr = -s; dr <= s; dr += s) {
                            int[] c = {hand[0] + dx, hand[1] + dy, hand[2] + dr, 0, hand[4]};
                            Slip one = circleCan(c[0], c[1], c[2]) ? cut(c[0], c[1], c[2], left) : null;
                            if (one != null) {
                                c[3] = factor(one);
                                if (best == null || c[3] < best[3]) {
                                    best = c;
                                }
                            }
                        }
                    }
                }
                if (best != null && (hand[3] == NONE || best[3] < hand[3])) {
                    hand = best;
                } else {
                    s /= 2;
                }
            }
            return hand[3] == NONE ? null : hand;
        }

        List<Slip> allSlips(int t, boolean left) {
            List<Slip> all = new ArrayList<>();
            for (int a = 0; a < n; a++) {
                Slip s = new Slip();
                s.a = a;
                s.left = left;
                s.base = new int[n + 1];
                s.base[a] = ground[a];
                grow(s, a, t, all);
            }
            return all;
        }

        private void grow(Slip s, int at, int t, List<Slip> all) {
            int c = at + 1;
            if (c > n) {
                return;
            }
            if (Math.abs(ground[c] - s.base[at]) <= t) {
                Slip closed = s.copy();
                closed.b = c;
                closed.base[c] = ground[c];
                all.add(closed);
            }
            for (int h = rock[c]; h < ground[c]; h++) {
                if (Math.abs(h - s.base[at]) <= t) {
                    s.base[c] = h;
                    grow(s, c, t, all);
                }
            }
        }

        private static boolean earlier(Slip s, Slip o) {
            if (s.a != o.a) {
                return s.a < o.a;
            }
            if (s.b != o.b) {
                return s.b < o.b;
            }
            for (int c = s.b; c >= s.a; c--) {
                if (s.base[c] != o.base[c]) {
                    return s.base[c] < o.base[c];
                }
            }
            return false;
        }

        /** What SLICES leave over at one k, each worked out once. */
        private final java.util.Map<Integer, Long> known = new java.util.HashMap<>();

        /** What a SLIP leaves over, SLICE by SLICE; null: one is FAST. */
        private Long leftOver(Slip s, int k) {
            long all = 0;
            for (int c = s.a; c < s.b; c++) {
                int key = (c * 128 + s.base[c]) * 128 + s.base[c + 1];
                if (!known.containsKey(key)) {
                    BigInteger rubs = rubs(s, c, k);
                    known.put(key, rubs == null ? null : rubs.multiply(BigInteger.valueOf(1000))
                            .subtract(BigInteger.valueOf(push(s, c)).multiply(BigInteger.valueOf(k))).longValueExact());
                }
                Long one = known.get(key);
                if (one == null) {
                    return null;
                }
                all = Math.addExact(all, one);
            }
            return all;
        }

        private boolean allStand(List<Slip> all, int k) {
            known.clear();
            for (Slip s : all) {
                Long over = leftOver(s, k);
                if (over != null && over < 0) {
                    return false;
                }
            }
            return true;
        }

        /** found[0] is the one that is told, if any. */
        int tables(int t, boolean left, Slip[] found) {
            List<Slip> all = allSlips(t, left);
            int low = 0;
            int high = 20001;
            while (high - low > 1) {
                int m = (low + high) / 2;
                if (allStand(all, m)) {
                    low = m;
                } else {
                    high = m;
                }
            }
            Long least = null;
            known.clear();
            for (Slip s : low == 20000 ? new ArrayList<Slip>() : all) {
                Long over = leftOver(s, low + 1);
                if (over == null) {
                    continue;
                }
                int so = least == null ? -1 : over.compareTo(least);
                if (so < 0 || so == 0 && earlier(s, found[0])) {
                    least = over;
                    found[0] = s;
                }
            }
            return low;
        }

        World mirrored() {
            World w = copy();
            for (int c = 0; c <= n; c++) {
                w.ground[c] = ground[n - c];
                w.rock[c] = rock[n - c];
                w.water[c] = water[n - c];
                w.load[c] = load[n - c];
                for (int l = 1; l < 4; l++) {
                    w.told[l][c] = told[l][n - c];
                }
                if (slip != null) {
                    w.slip.base[c] = slip.base[n - c];
                }
            }
            for (int i = 0; i < 6; i++) {
                if (anchors[i] != null) {
                    w.anchors[i][0] = n - anchors[i][0];
                }
            }
            if (slip != null) {
                w.slip.a = n - slip.b;
                w.slip.b = n - slip.a;
                w.slip.left = !slip.left;
            }
            return w;
        }
    }

    static boolean in(int v, int least, int most) {
        return v >= least && v <= most;
    }

    static boolean circleCan(int x, int y, int r) {
        return in(x, -50, 450) && in(y, -50, 450) && in(r, 1, 500);
    }

    World w = new World(20, 4);
    List<int[]> pts = new ArrayList<>();
    int state;
    String chosen = "";
    StringBuilder tape = new StringBuilder();
    int faultKind;
    int faultPlace = NONE;
    List<World> acts = new ArrayList<>();
    World imageWorld;
    List<int[]> imagePts;
    int imageState;

    private boolean col(int c) {
        return in(c, 0, w.n);
    }

    private void act() {
        acts.add(w.copy());
        if (acts.size() > 8) {
            acts.remove(0);
        }
    }

    boolean size(int n, int b) {
        if (!in(n, 4, 40) || !in(b, 1, 10)) {
            return false;
        }
        act();
        w = new World(n, b);
        return true;
    }

    boolean tell(int c, int what, int v) {
        if (!col(c) || !in(what, 0, 5) || !in(v, 0, what == 2 ? 500 : what == 0 ? w.ground[c] : 100)) {
            return false;
        }
        (what == 0 ? w.rock : what == 1 ? w.water : what == 2 ? w.load : w.told[what - 2])[c] = v;
        if (what == 0) {
            w.slip = null;
        }
        return true;
    }

    int dig(int c, int v) {
        if (!col(c) || v == 0 || (long) w.ground[c] - v < w.rock[c] || (long) w.ground[c] - v > 100) {
            return NONE;
        }
        act();
        w.slip = null;
        return w.ground[c] -= v;
    }

    boolean soil(int l, int weight, int hold, int rub) {
        if (!in(l, 0, 3) || !in(weight, 1, 30) || !in(hold, 0, 200) || !in(rub, 0, 1500)) {
            return false;
        }
        w.soil[l] = new int[] {weight, hold, rub};
        return true;
    }

    boolean quake(int q) {
        if (!in(q, 0, 500)) {
            return false;
        }
        w.quake = q;
        return true;
    }

    boolean anchor(int i, int c, int height, int pull) {
        if (!in(i, 0, 5) || !col(c) || !in(height, 0, 100) || !in(pull, 0, 500)) {
            return false;
        }
        w.anchors[i] = pull == 0 ? null : new int[] {c, height, pull};
        return true;
    }

    int feed(int... five) {
        if (tape.length() + 20 > 600) {
            return NONE;
        }
        for (int v : five) {
            for (int i = 3; i >= 0; i--) {
                tape.append((char) (v >> 8 * i & 255));
            }
        }
        return tape.length();
    }

    boolean end(int n) {
        if (n < 0 || n > tape.length()) {
            return false;
        }
        tape.setLength(n);
        return true;
    }

    static final class Fault extends RuntimeException {
        private static final long serialVersionUID = 1L;

        final int kind;
        final int place;

        Fault(int kind, int place) {
            this.kind = kind;
            this.place = place;
        }
    }

    /** One token after the other: its text and place; the last is empty, at the text's length. */
    static final class Tokens {
        final List<String> words = new ArrayList<>();
        final List<Integer> places = new ArrayList<>();
        int at;

        Tokens(String t) {
            java.util.regex.Matcher m = java.util.regex.Pattern.compile("[a-z]+|[0-9]+|[^ ]", java.util.regex.Pattern.DOTALL)
                    .matcher(t);
            while (m.find()) {
                words.add(m.group());
                places.add(m.start());
            }
            words.add("");
            places.add(t.length());
        }

        String see() {
            return words.get(at);
        }

        int place() {
            return places.get(at);
        }

        boolean digits() {
            return see().matches("[0-9]+");
        }

        void want(String s) {
            if (!see().equals(s)) {
                throw new Fault(1, place());
            }
            at++;
        }

        int number(int least, int most) {
            if (!digits()) {
                throw new Fault(1, place());
            }
            BigInteger v = new BigInteger(see());
            if (v.compareTo(BigInteger.valueOf(least)) < 0 || v.compareTo(BigInteger.valueOf(most)) > 0) {
                throw new Fault(2, place());
            }
            at++;
            return v.intValue();
        }
    }

    static void row(Tokens k, int[] row, int most) {
        int c = 0;
        do {
            int v = k.number(0, most);
            int times = 1;
            if (k.see().equals("*")) {
                k.at++;
                times = k.number(1, row.length - c);
            }
            while (times-- > 0) {
                row[c++] = v;
            }
        } while (c < row.length && k.digits());
        if (c < row.length && k.see().equals(";")) {
            throw new Fault(2, k.place());
        }
    }

    static World parse(String t, int[] lines) {
        Tokens k = new Tokens(t);
        k.want("columns");
        World w = new World(0 + k.number(4, 40), 1);
        w.b = k.number(1, 10);
        k.want(";");
        lines[0] = 1;
        Set<String> told = new HashSet<>();
        while (!k.see().isEmpty()) {
            String word = k.see();
            int place = k.place();
            if (!Set.of("ground", "rock", "water", "top", "load", "soil", "quake", "anchor").contains(word)) {
                throw new Fault(1, place);
            }
            k.at++;
            int number = 0;
            if (Set.of("top", "soil", "anchor").contains(word)) {
                place = k.place();
                number = k.number(word.equals("top") ? 1 : 0, word.equals("anchor") ? 5 : 3);
            }
            if (!told.add(word + number)) {
                throw new Fault(3, place);
            }
            switch (word) {
                case "ground" -> row(k, w.ground, 100);
                case "rock" -> row(k, w.rock, 100);
                case "water" -> row(k, w.water, 100);
                case "load" -> row(k, w.load, 500);
                case "top" -> row(k, w.told[number], 100);
                case "soil" -> w.soil[number] = new int[] {k.number(1, 30), k.number(0, 200), k.number(0, 1500)};
                case "quake" -> w.quake = k.number(0, 500);
                default -> w.anchors[number] = new int[] {k.number(0, w.n), k.number(0, 100), k.number(1, 500)};
            }
            k.want(";");
            lines[0]++;
        }
        for (int c = 0; c <= w.n; c++) {
            if (w.rock[c] > w.ground[c]) {
                throw new Fault(4, t.length());
            }
        }
        return w;
    }

    int text() {
        int[] lines = new int[1];
        String t = tape.toString();
        tape.setLength(0);
        try {
            World read = parse(t, lines);
            act();
            w = read;
            faultKind = 0;
            faultPlace = NONE;
            return lines[0];
        } catch (Fault f) {
            faultKind = f.kind;
            faultPlace = f.place;
            return NONE;
        }
    }

    int fault(int what) {
        return what == 0 ? faultKind : what == 1 ? faultPlace : NONE;
    }

    private int become(Slip s) {
        if (s == null) {
            return NONE;
        }
        w.slip = s;
        return s.b - s.a;
    }

    int circle(int x, int y, int r, boolean left) {
        return circleCan(x, y, r) ? become(w.cut(x, y, r, left)) : NONE;
    }

    int point(int c, int height) {
        if (c == NONE) {
            pts.clear();
            return 0;
        }
        if (!col(c) || !in(height, 0, 100) || pts.size() == 12
                || !pts.isEmpty() && pts.get(pts.size() - 1)[0] >= c) {
            return NONE;
        }
        pts.add(new int[] {c, height});
        return pts.size();
    }

    int points(boolean left) {
        if (pts.size() < 2 || pts.get(pts.size() - 1)[0] > w.n) {
            return NONE;
        }
        Slip s = new Slip();
        s.left = left;
        s.a = pts.get(0)[0];
        s.b = pts.get(pts.size() - 1)[0];
        s.base = new int[w.n + 1];
        for (int i = 0; i + 1 < pts.size(); i++) {
            int[] p = pts.get(i);
            int[] q = pts.get(i + 1);
            for (int c = p[0]; c <= q[0]; c++) {
                double exact = p[1] + (double) (q[1] - p[1]) * (c - p[0]) / (q[0] - p[0]);
                s.base[c] = (int) Math.floor(exact + 1e-9);
            }
        }
        for (int c = s.a + 1; c < s.b; c++) {
            if (s.base[c] >= w.ground[c] || s.base[c] < w.rock[c]) {
                return NONE;
            }
        }
        s.base[s.a] = w.ground[s.a];
        s.base[s.b] = w.ground[s.b];
        return become(s);
    }

    int worst(int t, boolean left) {
        if (!in(t, 1, 12)) {
            return NONE;
        }
        Slip[] found = new Slip[1];
        w.tables(t, left, found);
        return become(found[0]);
    }

    int undo() {
        if (acts.isEmpty()) {
            return NONE;
        }
        w = acts.remove(acts.size() - 1);
        return acts.size();
    }

    int column(int c, int what) {
        if (!col(c) || !in(what, 0, 8)) {
            return NONE - 9;
        }
        if (what >= 4 && what <= 7) {
            return w.top(what - 4, c);
        }
        if (what == 8) {
            return w.slip == null || !in(c, w.slip.a, w.slip.b) ? NONE : w.slip.base[c];
        }
        return what == 0 ? w.ground[c] : what == 1 ? w.rock[c] : what == 2 ? w.water(c) : w.load[c];
    }

    int layer(int l, int what) {
        return in(l, 0, 3) && in(what, 0, 2) ? w.soil[l][what] : NONE;
    }

    int anchored(int i, int what) {
        if (!in(i, 0, 5) || !in(what, 0, 3) || w.anchors[i] == null) {
            return NONE;
        }
        return what < 3 ? w.anchors[i][what] : w.counts(i, w.slip) ? 1 : 0;
    }

    private boolean hasSlice(int i) {
        return w.slip != null && in(i, 0, w.slip.b - w.slip.a - 1);
    }

    long slice(int i, int what) {
        if (!hasSlice(i) || !in(what, 0, 7)) {
            return -10000000000000L;
        }
        Slip s = w.slip;
        int c = s.a + i;
        return new long[] {c, w.rise(s, c), w.weight(s, c), w.lift(s, c), w.press(s, c), w.layer(s, c),
            w.strength(s, c), w.push(s, c)}[what];
    }

    long rubs(int i, int k) {
        if (!hasSlice(i) || !in(k, 1, 20000)) {
            return NONE - 9;
        }
        BigInteger r = w.rubs(w.slip, w.slip.a + i, k);
        return r == null ? NONE : r.longValueExact();
    }

    private boolean canAsk(int k) {
        return w.slip != null && in(k, 1, 20000);
    }

    int stands(int k) {
        return !canAsk(k) ? NONE : w.stands(w.slip, k, 0) ? 1 : 0;
    }

    int factor() {
        return w.slip == null ? NONE : w.factor(w.slip);
    }

    long sum(int what) {
        if (w.slip == null || !in(what, 0, 4)) {
            return -10000000000000L;
        }
        if (what == 1) {
            return w.pulls(w.slip);
        }
        long all = 0;
        for (int i = 0; i < w.slip.b - w.slip.a; i++) {
            all += slice(i, new int[] {7, 0, 2, 3, 6}[what]);
        }
        return all;
    }

    int dry() {
        if (w.slip == null) {
            return NONE;
        }
        World d = w.copy();
        Arrays.fill(d.water, 0);
        return d.factor(w.slip);
    }

    int bears(int k) {
        if (!canAsk(k)) {
            return NONE;
        }
        int best = NONE;
        for (int up = 0; up <= 100; up++) {
            World d = w.copy();
            for (int c = 0; c <= d.n; c++) {
                d.water[c] = Math.min(100, w.water[c] + up);
            }
            if (!d.stands(w.slip, k, 0)) {
                break;
            }
            best = up;
        }
        return best;
    }

    int needs(int k) {
        if (!canAsk(k)) {
            return NONE;
        }
        World d = w.copy();
        for (int more = 0; more <= 500; more++) {
            for (int l = 0; l < 4; l++) {
                d.soil[l][1] = w.soil[l][1] + more;
            }
            if (d.stands(w.slip, k, 0)) {
                return more;
            }
        }
        return NONE;
    }

    int pull(int k) {
        if (!canAsk(k)) {
            return NONE;
        }
        BigInteger over = w.over(w.slip, k, w.pulls(w.slip));
        for (int p = 0; p <= 20000; p++) {
            BigInteger more = BigInteger.valueOf(2000L * w.b * p).multiply(BigInteger.valueOf(k));
            if (over == null || over.add(more).signum() >= 0) {
                return p;
            }
        }
        return NONE;
    }

    int tried(int x, int y, int r, boolean left) {
        Slip s = circleCan(x, y, r) ? w.cut(x, y, r, left) : null;
        return s == null ? NONE : w.factor(s);
    }

    int boxes(int x, int y, int r, int s, boolean left, int what) {
        if (!circleCan(x, y, r) || !in(s, 1, 64) || !in(what, 0, 4)) {
            return NONE - 99;
        }
        int[] hand = w.boxes(x, y, r, s, left);
        return hand == null ? NONE - 99 : hand[new int[] {3, 0, 1, 2, 4}[what]];
    }

    int tables(int t, boolean left, int what) {
        if (!in(t, 1, 12) || !in(what, 0, 2) && !in(what, 10, 50)) {
            return NONE;
        }
        Slip[] found = new Slip[1];
        int k = w.tables(t, left, found);
        Slip s = found[0];
        if (what == 0) {
            return k;
        }
        return s == null ? NONE : told(s, what);
    }

    /** What tables() tells of the SLIP that it found, for a what but 0. */
    static int told(Slip s, int what) {
        return what == 1 ? s.a : what == 2 ? s.b : in(what - 10, s.a, s.b) ? s.base[what - 10] : NONE;
    }

    int dug(int c, int v, int x, int y, int r, boolean left) {
        if (!circleCan(x, y, r) || !col(c) || v == 0
                || (long) w.ground[c] - v < w.rock[c] || (long) w.ground[c] - v > 100) {
            return NONE;
        }
        World d = w.copy();
        d.ground[c] -= v;
        int[] hand = d.boxes(x, y, r, 8, left);
        return hand == null ? NONE : hand[3];
    }

    boolean mirror() {
        act();
        w = w.mirrored();
        return w.slip != null;
    }

    int berm(int c, int d, int k) {
        if (!canAsk(k) || !col(c) || !col(d) || c > d) {
            return NONE;
        }
        for (int v = 0; v <= 500; v++) {
            World o = w.copy();
            for (int i = c; i <= d; i++) {
                o.load[i] += v;
            }
            if (o.stands(w.slip, k, 0)) {
                return v;
            }
        }
        return NONE;
    }

    int shape(int what) {
        if (w.slip == null || !in(what, 0, 5)) {
            return NONE;
        }
        Slip s = w.slip;
        int area = 0;
        int falling = 0;
        int afloat = 0;
        for (int c = s.a; c < s.b; c++) {
            area += w.b * (w.ground[c] - s.base[c]) + w.b * (w.ground[c + 1] - s.base[c + 1]);
            falling += w.rise(s, c) < 0 ? 1 : 0;
            afloat += w.lift(s, c) > w.weight(s, c) ? 1 : 0;
        }
        int deepest = s.a;
        int least = 1000;
        for (int c = s.a; c <= s.b; c++) {
            if (w.ground[c] - s.base[c] > w.ground[deepest] - s.base[deepest]) {
                deepest = c;
            }
            least = Math.min(least, s.base[c]);
        }
        return new int[] {area, w.ground[deepest] - s.base[deepest], deepest, least, falling, afloat}[what];
    }

    /** null: FAST up to it. */
    private BigInteger thrustOf(int i, int k) {
        BigInteger all = BigInteger.ZERO;
        for (int c = w.slip.a; c <= w.slip.a + i; c++) {
            BigInteger r = w.rubs(w.slip, c, k);
            if (r == null) {
                return null;
            }
            all = all.add(BigInteger.valueOf(Math.floorDiv(w.push(w.slip, c) * k, 1000L))).subtract(r);
        }
        return all;
    }

    long thrust(int i, int k) {
        if (!hasSlice(i) || !in(k, 1, 20000)) {
            return -10000000000000000L;
        }
        BigInteger t = thrustOf(i, k);
        return t == null ? -10000000000000000L : t.longValueExact();
    }

    int crest(int k) {
        if (!canAsk(k)) {
            return NONE;
        }
        int best = 0;
        for (int i = 0; i < w.slip.b - w.slip.a; i++) {
            if (thrustOf(i, k) == null) {
                return NONE;
            }
            if (thrustOf(i, k).compareTo(thrustOf(best, k)) > 0) {
                best = i;
            }
        }
        return best;
    }

    int deep(int c, int k, int x, int y, int r, boolean left) {
        if (!circleCan(x, y, r) || !col(c) || !in(k, 1, 20000)) {
            return NONE;
        }
        for (int d = 0; d <= 5 && d <= w.ground[c] - w.rock[c]; d++) {
            World o = w.copy();
            o.ground[c] -= d;
            int[] hand = o.boxes(x, y, r, 8, left);
            if (hand != null && hand[3] < k) {
                return d - 1;
            }
        }
        return Math.min(5, w.ground[c] - w.rock[c]);
    }

    int scan(int x, int y, int r, int s, boolean left, int k, int what) {
        if (!circleCan(x, y, r) || !in(s, 1, 64) || !in(k, 1, 20000) || !in(what, 0, 1)) {
            return NONE;
        }
        int all = 0;
        for (int dx = -2; dx <= 2; dx++) {
            for (int dy = -2; dy <= 2; dy++) {
                for (int dr = -2; dr <= 2; dr++) {
                    int f = tried(x + dx * s, y + dy * s, r + dr * s, left);
                    all += f != NONE && (what == 0 || f < k) ? 1 : 0;
                }
            }
        }
        return all;
    }

    int state(int v) {
        int was = state;
        state = v;
        return was;
    }

    private int draw(int m) {
        state = state * 1664525 + 1013904223;
        return (int) (((state & 0xffffffffL) >> 8) % m);
    }

    int chance(int n, int spread, int k) {
        if (!in(n, 1, 40) || !in(spread, 0, 50) || !canAsk(k)) {
            return NONE;
        }
        int fallen = 0;
        for (int i = 0; i < n; i++) {
            World o = w.copy();
            for (int l = 0; l < 4; l++) {
                o.soil[l][1] = w.soil[l][1] * (100 - spread + draw(2 * spread + 1)) / 100;
                o.soil[l][2] = w.soil[l][2] * (100 - spread + draw(2 * spread + 1)) / 100;
            }
            fallen += o.stands(w.slip, k, 0) ? 0 : 1;
        }
        return fallen;
    }

    int report() {
        if (w.slip == null) {
            chosen = "";
            return NONE;
        }
        int f = factor();
        chosen = String.format("%d.%03d %d-%d %s", f / 1000, f % 1000, w.slip.a, w.slip.b, w.slip.left ? "L" : "R");
        return chosen.length();
    }

    int sign(int i) {
        return in(i, 0, chosen.length() - 1) ? chosen.charAt(i) : NONE;
    }

    boolean image(boolean taken) {
        if (taken) {
            imageWorld = w.copy();
            imagePts = new ArrayList<>(pts);
            imageState = state;
            return true;
        }
        if (imageWorld == null) {
            return false;
        }
        w = imageWorld.copy();
        pts = new ArrayList<>(imagePts);
        state = imageState;
        acts.clear();
        return true;
    }

    int look(int what) {
        Slip s = w.slip;
        switch (what) {
            case 0: return w.n;
            case 1: return w.b;
            case 2: return w.quake;
            case 3: {
                int set = 0;
                for (int i = 0; i < 6; i++) {
                    set += w.anchors[i] == null ? 0 : 1 << i;
                }
                return set;
            }
            case 4: return s == null ? 0 : s.b - s.a;
            case 5: return s == null ? NONE : s.a;
            case 6: return s == null ? NONE : s.b;
            case 7: return s == null ? NONE : s.left ? 1 : 0;
            case 8: return pts.size();
            case 9: return acts.size();
            case 10: return tape.length();
            case 11: return Arrays.stream(w.ground).max().getAsInt();
            case 12: return Arrays.stream(w.ground).sum() - Arrays.stream(w.rock).sum();
            case 13: return state;
            default: return NONE - 9;
        }
    }
}
