import java.util.Arrays;

/**
 * A slope judged by slices. The words in capitals of the document stand in the names here:
 * a Ground is all that is told, a Slip is what may slide on it, Slices balance a Slip,
 * a Seeker goes through BOXES, a Table through TABLES, a Tape reads a TEXT.
 */
public final class SlopeJudge {
    public static final int NONE = -1;

    private static final int MOST_COLUMNS = 41;
    private static final int MOST_HEIGHT = 100;
    private static final int HEIGHTS = 101;
    private static final int LAYERS = 4;
    private static final int ANCHORS = 6;
    private static final int MOST_LOAD = 500;
    private static final int MOST_HOLD = 200;
    private static final int MOST_RUB = 1500;
    private static final int MOST_PULL = 500;
    private static final int MOST_QUAKE = 500;
    private static final int MOST_POINTS = 12;
    private static final int MOST_ACTS = 8;
    private static final int MOST_BYTES = 600;
    private static final int MOST_SIGNS = 16;
    private static final int MOST_K = 20000;
    private static final int MOST_STEP = 64;
    private static final int DIG_STEP = 8;
    private static final int MOST_DEEP = 5;
    private static final int MOST_ROUNDS = 60;
    /** 20001 is halved to 1 by fifteen middles. */
    private static final int MIDDLES = 15;
    /** RUBS together beyond this hold any PUSHES there can be; a thousand times more would not fit a long. */
    private static final long PLENTY = 1000000000000000L;
    private static final int NO_BOX = NONE - 99;
    private static final int NO_COLUMN = NONE - 9;
    private static final long NO_SLICE = NONE - 9999999999999L;
    private static final long NO_THRUST = NONE - 9999999999999999L;

    private final Ground now = new Ground();
    private final Ground thought = new Ground();
    private final Ground imageGround = new Ground();
    private final Held held = new Held();
    private final Held imageHeld = new Held();
    private final Report chosen = new Report();
    private final Ground[] acts = new Ground[MOST_ACTS];
    private final Tape tape = new Tape();
    private final Slices slices = new Slices();
    private final Seeker seeker = new Seeker();
    private final Slip trial = new Slip();
    private Table table;
    private boolean imageTaken;
    private int actsKept;
    private int nextAct;

    public SlopeJudge() {
        now.begin(20, 4);
        for (int i = 0; i < MOST_ACTS; i++) {
            acts[i] = new Ground();
        }
    }

    // ---- what is told ----

    public boolean size(int n, int b) {
        if (n < 4 || n >= MOST_COLUMNS || b < 1 || b > 10) {
            return false;
        }
        keepAct();
        now.begin(n, b);
        return true;
    }

    public boolean tell(int column, int what, int v) {
        if (!now.hasColumn(column) || what < 0 || what > 5 || v < 0) {
            return false;
        }
        if (what == 0) {
            return tellRock(column, v);
        }
        if (v > (what == 2 ? MOST_LOAD : MOST_HEIGHT)) {
            return false;
        }
        if (what == 1) {
            now.water[column] = v;
        } else if (what == 2) {
            now.load[column] = v;
        } else {
            now.tops[topPlace(what - 2, column)] = v;
        }
        return true;
    }

    private boolean tellRock(int column, int v) {
        if (v > now.ground[column]) {
            return false;
        }
        now.rock[column] = v;
        now.slip.drop();
        return true;
    }

    public int dig(int column, int v) {
        if (!now.canLower(column, v)) {
            return NONE;
        }
        keepAct();
        now.ground[column] -= v;
        now.slip.drop();
        return now.ground[column];
    }

    public boolean soil(int layer, int weight, int hold, int rub) {
        if (layer < 0 || layer >= LAYERS || weight < 1 || weight > 30
                || hold < 0 || hold > MOST_HOLD || rub < 0 || rub > MOST_RUB) {
            return false;
        }
        now.weight[layer] = weight;
        now.hold[layer] = hold;
        now.rub[layer] = rub;
        return true;
    }

    public boolean quake(int q) {
        if (q < 0 || q > MOST_QUAKE) {
            return false;
        }
        now.quake = q;
        return true;
    }

    public boolean anchor(int i, int column, int height, int pull) {
        if (i < 0 || i >= ANCHORS || !now.hasColumn(column)
                || height < 0 || height > MOST_HEIGHT || pull < 0 || pull > MOST_PULL) {
            return false;
        }
        now.anchorColumn[i] = column;
        now.anchorHeight[i] = height;
        now.anchorPull[i] = pull;
        return true;
    }

    // ---- the tape and its text ----

    public int feed(int a, int b, int c, int d, int e) {
        if (tape.length > MOST_BYTES - 20) {
            return NONE;
        }
        tape.put(a);
        tape.put(b);
        tape.put(c);
        tape.put(d);
        tape.put(e);
        return tape.length;
    }

    public boolean end(int n) {
        if (n < 0 || n > tape.length) {
            return false;
        }
        tape.length = n;
        return true;
    }

    public int text() {
        int lines = tape.read(thought);
        tape.length = 0;
        if (lines == NONE) {
            return NONE;
        }
        keepAct();
        now.copy(thought);
        return lines;
    }

    public int fault(int what) {
        if (what == 0) {
            return tape.fault;
        }
        return what == 1 ? tape.place : NONE;
    }

    // ---- the slip ----

    public int circle(int x, int y, int r, boolean left) {
        if (!isCircle(x, y, r) || !trial.cut(now, x, y, r, left)) {
            return NONE;
        }
        return takeTrial();
    }

    public int point(int column, int height) {
        if (column == NONE) {
            held.points = 0;
            return 0;
        }
        int last = held.points == 0 ? NONE : held.pointColumn[held.points - 1];
        if (!now.hasColumn(column) || column <= last || height < 0 || height > MOST_HEIGHT
                || held.points >= MOST_POINTS) {
            return NONE;
        }
        held.pointColumn[held.points] = column;
        held.pointHeight[held.points] = height;
        held.points++;
        return held.points;
    }

    public int points(boolean left) {
        return trial.follow(now, held, left) ? takeTrial() : NONE;
    }

    public int worst(int t, boolean left) {
        if (t < 1 || t > 12) {
            return NONE;
        }
        Table least = tableOf(t, left);
        if (least.found.isNone()) {
            return NONE;
        }
        now.slip.copy(least.found);
        return now.slip.count();
    }

    private int takeTrial() {
        now.slip.copy(trial);
        return now.slip.count();
    }

    public boolean mirror() {
        keepAct();
        now.turn();
        return !now.slip.isNone();
    }

    // ---- acts and the image ----

    private void keepAct() {
        acts[nextAct].copy(now);
        nextAct = (nextAct + 1) % MOST_ACTS;
        if (actsKept < MOST_ACTS) {
            actsKept++;
        }
    }

    public int undo() {
        if (actsKept == 0) {
            return NONE;
        }
        nextAct = (nextAct + MOST_ACTS - 1) % MOST_ACTS;
        now.copy(acts[nextAct]);
        actsKept--;
        return actsKept;
    }

    public boolean image(boolean taken) {
        if (taken) {
            imageGround.copy(now);
            imageHeld.copy(held);
            imageTaken = true;
            return true;
        }
        if (!imageTaken) {
            return false;
        }
        now.copy(imageGround);
        held.copy(imageHeld);
        actsKept = 0;
        return true;
    }

    // ---- what is asked of the ground ----

    public int column(int column, int what) {
        if (!now.hasColumn(column)) {
            return NO_COLUMN;
        }
        switch (what) {
            case 0:
                return now.ground[column];
            case 1:
                return now.rock[column];
            case 2:
                return now.waterAt(column);
            case 3:
                return now.load[column];
            case 4:
            case 5:
            case 6:
            case 7:
                return now.topAt(what - 4, column);
            case 8:
                return now.slip.baseAt(column);
            default:
                return NO_COLUMN;
        }
    }

    public int layer(int layer, int what) {
        if (layer < 0 || layer >= LAYERS) {
            return NONE;
        }
        switch (what) {
            case 0:
                return now.weight[layer];
            case 1:
                return now.hold[layer];
            case 2:
                return now.rub[layer];
            default:
                return NONE;
        }
    }

    public int anchored(int i, int what) {
        if (i < 0 || i >= ANCHORS || now.anchorPull[i] == 0) {
            return NONE;
        }
        switch (what) {
            case 0:
                return now.anchorColumn[i];
            case 1:
                return now.anchorHeight[i];
            case 2:
                return now.anchorPull[i];
            case 3:
                return now.anchorCounts(i, now.slip) ? 1 : 0;
            default:
                return NONE;
        }
    }

    public int look(int what) {
        switch (what) {
            case 0:
                return now.n;
            case 1:
                return now.b;
            case 2:
                return now.quake;
            case 3:
                return now.anchorSet();
            case 4:
                return now.slip.count();
            case 5:
                return now.slip.from;
            case 6:
                return now.slip.to;
            case 7:
                return now.slip.isNone() ? NONE : now.slip.left ? 1 : 0;
            case 8:
                return held.points;
            case 9:
                return actsKept;
            case 10:
                return tape.length;
            case 11:
                return now.greatestGround();
            case 12:
                return now.allSoil();
            case 13:
                return held.state;
            default:
                return NONE - 9;
        }
    }

    // ---- what is asked of the slip ----

    /** The SLIP that is told, cut into slices; false without one. */
    private boolean cutUp() {
        if (now.slip.isNone()) {
            return false;
        }
        slices.weigh(now, now.slip);
        slices.settle(now, 0);
        return true;
    }

    private static boolean isK(int k) {
        return k >= 1 && k <= MOST_K;
    }

    public long slice(int i, int what) {
        if (i < 0 || i >= now.slip.count() || !cutUp()) {
            return NO_SLICE;
        }
        switch (what) {
            case 0:
                return now.slip.from + i;
            case 1:
                return slices.rise[i];
            case 2:
                return slices.weight[i];
            case 3:
                return slices.lift[i];
            case 4:
                return slices.press(i);
            case 5:
                return slices.layerOf[i];
            case 6:
                return slices.strength[i];
            case 7:
                return slices.push[i];
            default:
                return NO_SLICE;
        }
    }

    public long rubs(int i, int k) {
        if (i < 0 || i >= now.slip.count() || !isK(k) || !cutUp()) {
            return NONE - 9;
        }
        return slices.rubsOf(i, k);
    }

    public int stands(int k) {
        if (!isK(k) || !cutUp()) {
            return NONE;
        }
        return slices.hold(k) ? 1 : 0;
    }

    public int factor() {
        return cutUp() ? slices.leastBound(MOST_K + 1) : NONE;
    }

    public long sum(int what) {
        if (!cutUp()) {
            return NO_SLICE;
        }
        switch (what) {
            case 0:
                return slices.allPushes();
            case 1:
                return slices.pulls;
            case 2:
                return slices.allWeights();
            case 3:
                return slices.allLifts();
            case 4:
                return slices.allStrengths();
            default:
                return NO_SLICE;
        }
    }

    public int dry() {
        if (now.slip.isNone()) {
            return NONE;
        }
        thought.copy(now);
        thought.dryUp();
        slices.weigh(thought, now.slip);
        slices.settle(thought, 0);
        return slices.leastBound(MOST_K + 1);
    }

    public int bears(int k) {
        if (!isK(k) || now.slip.isNone()) {
            return NONE;
        }
        thought.copy(now);
        int borne = NONE;
        for (int rise = 0; rise <= MOST_HEIGHT; rise++) {
            slices.weigh(thought, now.slip);
            slices.settle(thought, 0);
            if (!slices.hold(k)) {
                return borne;
            }
            borne = rise;
            thought.raiseWater();
        }
        return borne;
    }

    public int needs(int k) {
        if (!isK(k) || !cutUp()) {
            return NONE;
        }
        int low = NONE;
        int high = 501;
        // more HOLD never makes RUBS less, so the least can be found by halves
        for (int step = 0; step < MIDDLES && high - low > 1; step++) {
            int middle = (low + high) / 2;
            slices.settle(now, middle);
            if (slices.hold(k)) {
                high = middle;
            } else {
                low = middle;
            }
        }
        return high > 500 ? NONE : high;
    }

    public int pull(int k) {
        if (!isK(k) || !cutUp()) {
            return NONE;
        }
        long lack = slices.lack(k);
        if (lack <= 0) {
            return 0;
        }
        long one = 2000L * now.b * k;
        if (one <= 0) {
            return NONE;
        }
        long least = (lack + one - 1) / one;
        return least > 20000 ? NONE : (int) least;
    }

    public int berm(int c, int d, int k) {
        if (!isK(k) || !now.hasColumn(c) || !now.hasColumn(d) || c > d || !cutUp()) {
            return NONE;
        }
        for (int v = 0; v <= 500; v++) {
            if (slices.hold(k)) {
                return v;
            }
            slices.burden(now.slip.from, c, d);
            slices.settle(now, 0);
        }
        return NONE;
    }

    public int shape(int what) {
        if (!cutUp()) {
            return NONE;
        }
        switch (what) {
            case 0:
                return now.slipArea();
            case 1:
                return now.thickAt(now.thickest());
            case 2:
                return now.thickest();
            case 3:
                return now.slip.leastBase();
            case 4:
                return slices.countFalling();
            case 5:
                return slices.countAfloat();
            default:
                return NONE;
        }
    }

    public long thrust(int i, int k) {
        if (i < 0 || i >= now.slip.count() || !isK(k) || !cutUp()) {
            return NO_THRUST;
        }
        long together = 0;
        for (int j = 0; j <= i; j++) {
            if (slices.isFast(j, k)) {
                return NO_THRUST;
            }
            together += slices.thrustOf(j, k);
        }
        return together;
    }

    public int crest(int k) {
        if (!isK(k) || !cutUp()) {
            return NONE;
        }
        long together = 0;
        long greatest = 0;
        int crest = NONE;
        for (int j = 0; j < slices.count; j++) {
            if (slices.isFast(j, k)) {
                return NONE;
            }
            together += slices.thrustOf(j, k);
            if (crest == NONE || together > greatest) {
                greatest = together;
                crest = j;
            }
        }
        return crest;
    }

    // ---- least safe circles ----

    private static boolean isCircle(int x, int y, int r) {
        return x >= -50 && x <= 450 && y >= -50 && y <= 450 && r >= 1 && r <= 500;
    }

    public int tried(int x, int y, int r, boolean left) {
        return seeker.ask(now, x, y, r, left, MOST_K + 1);
    }

    public int boxes(int x, int y, int r, int s, boolean left, int what) {
        if (!isCircle(x, y, r) || s < 1 || s > MOST_STEP || what < 0 || what > 4) {
            return NO_BOX;
        }
        if (!seeker.seek(now, x, y, r, s, left)) {
            return NO_BOX;
        }
        switch (what) {
            case 0:
                return seeker.least;
            case 1:
                return seeker.x;
            case 2:
                return seeker.y;
            case 3:
                return seeker.r;
            default:
                return seeker.rounds;
        }
    }

    public int dug(int column, int v, int x, int y, int r, boolean left) {
        if (!isCircle(x, y, r) || !now.canLower(column, v)) {
            return NONE;
        }
        thought.copy(now);
        thought.ground[column] -= v;
        return seeker.seek(thought, x, y, r, DIG_STEP, left) ? seeker.least : NONE;
    }

    public int deep(int column, int k, int x, int y, int r, boolean left) {
        if (!isCircle(x, y, r) || !isK(k) || !now.hasColumn(column)) {
            return NONE;
        }
        int most = Math.min(MOST_DEEP, now.ground[column] - now.rock[column]);
        thought.copy(now);
        int borne = NONE;
        for (int d = 0; d <= most; d++) {
            thought.ground[column] = now.ground[column] - d;
            if (seeker.seek(thought, x, y, r, DIG_STEP, left) && seeker.least < k) {
                return borne;
            }
            borne = d;
        }
        return borne;
    }

    public int scan(int x, int y, int r, int s, boolean left, int k, int what) {
        if (!isCircle(x, y, r) || s < 1 || s > MOST_STEP || !isK(k) || what < 0 || what > 1) {
            return NONE;
        }
        int cuts = 0;
        int below = 0;
        for (int i = 0; i < 125; i++) {
            int found = seeker.ask(now, x + (i / 25 - 2) * s, y + (i / 5 % 5 - 2) * s, r + (i % 5 - 2) * s, left,
                    what == 0 ? 0 : k);
            if (found != NONE) {
                cuts++;
                if (found < k) {
                    below++;
                }
            }
        }
        return what == 0 ? cuts : below;
    }

    // ---- least safe slips of any shape ----

    private Table tableOf(int t, boolean left) {
        if (table == null) {
            table = new Table();
        }
        table.judge(now, t, left);
        return table;
    }

    public int tables(int t, boolean left, int what) {
        if (t < 1 || t > 12 || what < 0 || what > 50 || what > 2 && what < 10) {
            return NONE;
        }
        Table least = tableOf(t, left);
        if (what == 0) {
            return least.allStand;
        }
        if (what == 1) {
            return least.found.from;
        }
        return what == 2 ? least.found.to : least.found.baseAt(what - 10);
    }

    // ---- chance ----

    public int state(int v) {
        int was = held.state;
        held.state = v;
        return was;
    }

    public int chance(int n, int w, int k) {
        if (n < 1 || n > 40 || w < 0 || w > 50 || !isK(k) || !cutUp()) {
            return NONE;
        }
        thought.copy(now);
        int fallen = 0;
        for (int i = 0; i < n; i++) {
            for (int layer = 0; layer < LAYERS; layer++) {
                thought.hold[layer] = now.hold[layer] * (100 - w + held.draw(2 * w + 1)) / 100;
                thought.rub[layer] = now.rub[layer] * (100 - w + held.draw(2 * w + 1)) / 100;
            }
            slices.settle(thought, 0);
            if (!slices.hold(k)) {
                fallen++;
            }
        }
        return fallen;
    }

    // ---- the report ----

    public int report() {
        chosen.length = 0;
        if (!cutUp()) {
            return NONE;
        }
        chosen.writeFactor(slices.leastBound(MOST_K + 1));
        chosen.write(' ');
        chosen.writeNumber(now.slip.from);
        chosen.write('-');
        chosen.writeNumber(now.slip.to);
        chosen.write(' ');
        chosen.write(now.slip.left ? 'L' : 'R');
        return chosen.length;
    }

    public int sign(int i) {
        return i >= 0 && i < chosen.length ? chosen.signs[i] : NONE;
    }

    private static int topPlace(int layer, int column) {
        return (layer - 1) * MOST_COLUMNS + column;
    }

    /** The whole root, downwards, of 0 .. 250000 (the greatest radius squared). */
    private static int rootOf(int v) {
        int root = 0;
        for (int bit = 256; bit > 0; bit /= 2) {
            int next = root + bit;
            if (next * next <= v) {
                root = next;
            }
        }
        return root;
    }

    /** What is told beside the ground, so that THE IMAGE keeps it, but no ACT: POINTS and STATE. */
    private static final class Held {
        private final int[] pointColumn = new int[MOST_POINTS];
        private final int[] pointHeight = new int[MOST_POINTS];
        private int points;
        private int state;

        private void copy(Held other) {
            System.arraycopy(other.pointColumn, 0, pointColumn, 0, MOST_POINTS);
            System.arraycopy(other.pointHeight, 0, pointHeight, 0, MOST_POINTS);
            points = other.points;
            state = other.state;
        }

        private int draw(int m) {
            state = 1664525 * state + 1013904223;
            return m <= 0 ? 0 : (state >>> 8) % m;
        }
    }

    /** The chosen REPORT. It is chosen, not told: neither an ACT nor THE IMAGE keeps it. */
    private static final class Report {
        private final int[] signs = new int[MOST_SIGNS];
        private int length;

        private void write(int letter) {
            if (length < MOST_SIGNS) {
                signs[length] = letter;
                length++;
            }
        }

        private void writeFactor(int thousandths) {
            writeNumber(thousandths / 1000);
            write('.');
            write('0' + thousandths / 100 % 10);
            write('0' + thousandths / 10 % 10);
            write('0' + thousandths % 10);
        }

        /** A number of at most two digits: no FACTOR and no COLUMN has more ahead of its point. */
        private void writeNumber(int v) {
            if (v >= 10) {
                write('0' + v / 10 % 10);
            }
            write('0' + v % 10);
        }
    }

    /** A SLIP: from and to are a and b of the document, NONE without one. */
    private static final class Slip {
        private final int[] base = new int[MOST_COLUMNS];
        private int from = NONE;
        private int to = NONE;
        private boolean left;

        private boolean isNone() {
            return from < 0;
        }

        private void drop() {
            from = NONE;
            to = NONE;
        }

        private int count() {
            return to - from;
        }

        private void copy(Slip other) {
            System.arraycopy(other.base, 0, base, 0, MOST_COLUMNS);
            from = other.from;
            to = other.to;
            left = other.left;
        }

        private int baseAt(int c) {
            return isNone() || c < from || c > to ? NONE : base[c];
        }

        private int leastBase() {
            int least = MOST_HEIGHT;
            for (int c = Math.max(from, 0); c <= to; c++) {
                least = Math.min(least, base[c]);
            }
            return least;
        }

        private void span(Ground g, int first, int last, boolean goesLeft) {
            from = first;
            to = last;
            left = goesLeft;
            base[first] = g.ground[first];
            base[last] = g.ground[last];
        }

        /** Becomes the CUT of a circle; false, and of no use, if there is none. */
        private boolean cut(Ground g, int x, int y, int r, boolean goesLeft) {
            int first = NONE;
            int last = NONE;
            for (int c = 0; c <= g.n; c++) {
                int off = g.b * c - x;
                int rest = r * r - off * off;
                int low = rest < 0 ? g.ground[c] : Math.max(y - rootOf(rest), g.rock[c]);
                if (low < g.ground[c]) {
                    base[c] = low;
                    last = c;
                    if (first == NONE) {
                        first = c;
                    }
                } else if (first != NONE) {
                    break;
                }
            }
            if (first < 1 || last >= g.n) {
                return false;
            }
            span(g, first - 1, last + 1, goesLeft);
            return true;
        }

        /** Becomes the SLIP of POINTS; false, and of no use, if there can be none. */
        private boolean follow(Ground g, Held held, boolean goesLeft) {
            int many = held.points;
            // POINTS outlive a size() that takes their COLUMNS away
            if (many < 2 || many > MOST_POINTS || held.pointColumn[many - 1] > g.n) {
                return false;
            }
            int next = 1;
            int first = held.pointColumn[0];
            int last = held.pointColumn[many - 1];
            for (int c = first + 1; c < last; c++) {
                if (next < many - 1 && c > held.pointColumn[next]) {
                    next++;
                }
                int low = heightAt(held, next, c);
                if (low >= g.ground[c] || low < g.rock[c]) {
                    return false;
                }
                base[c] = low;
            }
            span(g, first, last, goesLeft);
            return true;
        }

        /** The height at COLUMN c on the line from the POINT ahead of next to next. */
        private static int heightAt(Held held, int next, int c) {
            int ahead = next - 1;
            int apart = held.pointColumn[next] - held.pointColumn[ahead];
            if (apart <= 0) {
                return held.pointHeight[next];
            }
            int difference = held.pointHeight[next] - held.pointHeight[ahead];
            return held.pointHeight[ahead]
                    + Math.floorDiv(difference * (c - held.pointColumn[ahead]), apart);
        }
    }

    /** All that a TEXT tells, and the SLIP in it: what an ACT keeps. */
    private static final class Ground {
        private int n;
        private int b;
        private int quake;
        private final int[] ground = new int[MOST_COLUMNS];
        private final int[] rock = new int[MOST_COLUMNS];
        private final int[] water = new int[MOST_COLUMNS];
        private final int[] load = new int[MOST_COLUMNS];
        /** TOPS of LAYERS 1 .. 3 as told, layer by layer; of LAYER 0 GROUND is the TOP. */
        private final int[] tops = new int[(LAYERS - 1) * MOST_COLUMNS];
        private final int[] weight = new int[LAYERS];
        private final int[] hold = new int[LAYERS];
        private final int[] rub = new int[LAYERS];
        private final int[] anchorColumn = new int[ANCHORS];
        private final int[] anchorHeight = new int[ANCHORS];
        /** 0 where there is no ANCHOR. */
        private final int[] anchorPull = new int[ANCHORS];
        private final Slip slip = new Slip();

        private void begin(int columns, int apart) {
            n = columns;
            b = apart;
            quake = 0;
            Arrays.fill(ground, 20);
            Arrays.fill(rock, 0);
            Arrays.fill(water, 0);
            Arrays.fill(load, 0);
            Arrays.fill(tops, 0);
            Arrays.fill(weight, 20);
            Arrays.fill(hold, 10);
            Arrays.fill(rub, 300);
            Arrays.fill(anchorPull, 0);
            slip.drop();
        }

        private void copy(Ground other) {
            n = other.n;
            b = other.b;
            quake = other.quake;
            System.arraycopy(other.ground, 0, ground, 0, MOST_COLUMNS);
            System.arraycopy(other.rock, 0, rock, 0, MOST_COLUMNS);
            System.arraycopy(other.water, 0, water, 0, MOST_COLUMNS);
            System.arraycopy(other.load, 0, load, 0, MOST_COLUMNS);
            System.arraycopy(other.tops, 0, tops, 0, (LAYERS - 1) * MOST_COLUMNS);
            System.arraycopy(other.weight, 0, weight, 0, LAYERS);
            System.arraycopy(other.hold, 0, hold, 0, LAYERS);
            System.arraycopy(other.rub, 0, rub, 0, LAYERS);
            System.arraycopy(other.anchorColumn, 0, anchorColumn, 0, ANCHORS);
            System.arraycopy(other.anchorHeight, 0, anchorHeight, 0, ANCHORS);
            System.arraycopy(other.anchorPull, 0, anchorPull, 0, ANCHORS);
            slip.copy(other.slip);
        }

        private boolean hasColumn(int c) {
            return c >= 0 && c <= n;
        }

        private boolean canLower(int c, int v) {
            if (!hasColumn(c) || v == 0) {
                return false;
            }
            long then = (long) ground[c] - v;
            return then >= rock[c] && then <= MOST_HEIGHT;
        }

        private boolean rockIsBelow() {
            for (int c = 0; c <= n; c++) {
                if (rock[c] > ground[c]) {
                    return false;
                }
            }
            return true;
        }

        private int waterAt(int c) {
            return Math.min(water[c], ground[c]);
        }

        private int topAt(int layer, int c) {
            int top = ground[c];
            for (int ahead = 1; ahead <= layer; ahead++) {
                top = Math.min(top, tops[topPlace(ahead, c)]);
            }
            return top;
        }

        /** WEIGHT of all LAYERS from base up at a COLUMN, and its LOAD. */
        private int weightOn(int c, int base) {
            int all = load[c];
            int top = ground[c];
            for (int layer = 0; layer < LAYERS && top > base; layer++) {
                int under = layer + 1 < LAYERS ? Math.min(top, tops[topPlace(layer + 1, c)]) : base;
                all += weight[layer] * (top - Math.max(under, base));
                top = under;
            }
            return all;
        }

        private int headOn(int c, int base) {
            return Math.max(0, Math.min(water[c], ground[c]) - base);
        }

        /** The LAYER of a SLICE from COLUMN c on, of which both BASES together are told. */
        private int layerUnder(int c, int bases) {
            for (int layer = LAYERS - 1; layer > 0; layer--) {
                if (topAt(layer, c) + topAt(layer, c + 1) > bases) {
                    return layer;
                }
            }
            return 0;
        }

        private boolean anchorCounts(int i, Slip s) {
            int c = anchorColumn[i];
            return anchorPull[i] > 0 && !s.isNone() && c >= s.from && c < s.to && anchorHeight[i] > s.base[c];
        }

        private long pullsOn(Slip s) {
            long all = 0;
            for (int i = 0; i < ANCHORS; i++) {
                if (anchorCounts(i, s)) {
                    all += 2000L * b * anchorPull[i];
                }
            }
            return all;
        }

        private int anchorSet() {
            int set = 0;
            for (int i = 0; i < ANCHORS; i++) {
                if (anchorPull[i] > 0) {
                    set |= 1 << i;
                }
            }
            return set;
        }

        private int greatestGround() {
            int greatest = 0;
            for (int c = 0; c <= n; c++) {
                greatest = Math.max(greatest, ground[c]);
            }
            return greatest;
        }

        private int allSoil() {
            int all = 0;
            for (int c = 0; c <= n; c++) {
                all += ground[c] - rock[c];
            }
            return all;
        }

        private int thickAt(int c) {
            return c < 0 || slip.isNone() ? 0 : ground[c] - slip.base[c];
        }

        private int thickest() {
            int best = slip.from;
            for (int c = Math.max(slip.from, 0); c <= slip.to; c++) {
                if (thickAt(c) > thickAt(best)) {
                    best = c;
                }
            }
            return best;
        }

        private int slipArea() {
            int all = 0;
            for (int c = Math.max(slip.from, 0); c < slip.to; c++) {
                all += b * (thickAt(c) + thickAt(c + 1));
            }
            return all;
        }

        private void dryUp() {
            Arrays.fill(water, 0);
        }

        private void raiseWater() {
            for (int c = 0; c <= n; c++) {
                water[c] = Math.min(water[c] + 1, MOST_HEIGHT);
            }
        }

        /** MIRRORED, the SLIP in it too. */
        private void turn() {
            turnRow(ground, 0);
            turnRow(rock, 0);
            turnRow(water, 0);
            turnRow(load, 0);
            for (int layer = 1; layer < LAYERS; layer++) {
                turnRow(tops, topPlace(layer, 0));
            }
            for (int i = 0; i < ANCHORS; i++) {
                anchorColumn[i] = n - anchorColumn[i];
            }
            turnRow(slip.base, 0);
            if (!slip.isNone()) {
                int first = n - slip.to;
                slip.to = n - slip.from;
                slip.from = first;
                slip.left = !slip.left;
            }
        }

        private void turnRow(int[] row, int at) {
            for (int c = 0; c < n - c; c++) {
                int kept = row[at + c];
                row[at + c] = row[at + n - c];
                row[at + n - c] = kept;
            }
        }
    }

    /** The SLICES of one SLIP: first weighed, then settled by what LAYERS hold and rub. */
    private static final class Slices {
        private final int[] rise = new int[MOST_COLUMNS];
        private final int[] weight = new int[MOST_COLUMNS];
        private final int[] lift = new int[MOST_COLUMNS];
        private final int[] layerOf = new int[MOST_COLUMNS];
        private final long[] strength = new long[MOST_COLUMNS];
        private final long[] push = new long[MOST_COLUMNS];
        /** STRENGTH times the squares of B and RISE together: what RUBS have of it at each k. */
        private final long[] grip = new long[MOST_COLUMNS];
        /** RISE times RUB. */
        private final long[] lean = new long[MOST_COLUMNS];
        private int count;
        private int b;
        private long pulls;

        private void weigh(Ground g, Slip s) {
            b = g.b;
            count = s.count();
            pulls = g.pullsOn(s);
            if (s.isNone()) {
                return;
            }
            int onThis = g.weightOn(s.from, s.base[s.from]);
            int headThis = g.headOn(s.from, s.base[s.from]);
            for (int i = 0; i < count; i++) {
                int c = s.from + i;
                int base = s.base[c];
                int next = s.base[c + 1];
                int onNext = g.weightOn(c + 1, next);
                int headNext = g.headOn(c + 1, next);
                rise[i] = s.left ? next - base : base - next;
                weight[i] = b * (onThis + onNext);
                lift[i] = 10 * b * (headThis + headNext);
                layerOf[i] = g.layerUnder(c, base + next);
                onThis = onNext;
                headThis = headNext;
            }
        }

        private void settle(Ground g, int moreHold) {
            for (int i = 0; i < count; i++) {
                int rub = g.rub[layerOf[i]];
                strength[i] = 2000L * (g.hold[layerOf[i]] + moreHold) * b + (long) press(i) * rub;
                push[i] = weight[i] * (1000L * rise[i] + g.quake * b);
                grip[i] = strength[i] * (b * b + rise[i] * rise[i]);
                lean[i] = (long) rise[i] * rub;
            }
        }

        /** One more LOAD on each of COLUMNS c to d; to be settled then. */
        private void burden(int from, int c, int d) {
            for (int i = 0; i < count; i++) {
                int x = from + i;
                if (x >= c && x <= d) {
                    weight[i] += b;
                }
                if (x + 1 >= c && x + 1 <= d) {
                    weight[i] += b;
                }
            }
        }

        private int press(int i) {
            return Math.max(0, weight[i] - lift[i]);
        }

        private boolean isFast(int i, int k) {
            return (long) b * k + lean[i] <= 0;
        }

        /** RUBS at k, NONE if it is FAST. */
        private long rubsOf(int i, int k) {
            long d = (long) b * k + lean[i];
            return d <= 0 ? NONE : grip[i] * k / d;
        }

        private long thrustOf(int i, int k) {
            return Math.floorDiv(k * push[i], 1000L) - rubsOf(i, k);
        }

        /** By how much PUSHES are too much for RUBS at k, a thousandfold; 0 or less: it STANDS. */
        private long lack(int k) {
            long base = (long) b * k;
            long rubs = 0;
            long pushes = -pulls;
            for (int i = 0; i < count; i++) {
                long d = base + lean[i];
                if (d <= 0) {
                    return 0;
                }
                rubs += grip[i] * k / d;
                pushes += push[i];
            }
            return rubs > PLENTY ? 0 : k * pushes - 1000 * rubs;
        }

        private boolean hold(int k) {
            return lack(k) <= 0;
        }

        /** FACTOR, if it is below limit; else some number from limit on. */
        private int leastBound(int limit) {
            int low = 0;
            int high = MOST_K + 1;
            for (int step = 0; step < MIDDLES && high - low > 1 && low < limit; step++) {
                int middle = (low + high) / 2;
                if (hold(middle)) {
                    low = middle;
                } else {
                    high = middle;
                }
            }
            return low;
        }

        private long allPushes() {
            long all = 0;
            for (int i = 0; i < count; i++) {
                all += push[i];
            }
            return all;
        }

        private long allWeights() {
            long all = 0;
            for (int i = 0; i < count; i++) {
                all += weight[i];
            }
            return all;
        }

        private long allLifts() {
            long all = 0;
            for (int i = 0; i < count; i++) {
                all += lift[i];
            }
            return all;
        }

        private long allStrengths() {
            long all = 0;
            for (int i = 0; i < count; i++) {
                all += strength[i];
            }
            return all;
        }

        private int countFalling() {
            int all = 0;
            for (int i = 0; i < count; i++) {
                if (rise[i] < 0) {
                    all++;
                }
            }
            return all;
        }

        private int countAfloat() {
            int all = 0;
            for (int i = 0; i < count; i++) {
                if (lift[i] > weight[i]) {
                    all++;
                }
            }
            return all;
        }
    }

    /** BOXES: x, y, r is the CIRCLE at hand, least its FACTOR (beyond all FACTORS, if it has none). */
    private static final class Seeker {
        private final Slip trial = new Slip();
        private final Slices slices = new Slices();
        private int x;
        private int y;
        private int r;
        private int least;
        private int rounds;

        /** FACTOR of a CIRCLE as far as limit; NONE, if it can't be or does not CUT. */
        private int ask(Ground g, int atX, int atY, int atR, boolean left, int limit) {
            if (!isCircle(atX, atY, atR) || !trial.cut(g, atX, atY, atR, left)) {
                return NONE;
            }
            slices.weigh(g, trial);
            slices.settle(g, 0);
            return slices.leastBound(limit);
        }

        private boolean seek(Ground g, int atX, int atY, int atR, int step, boolean left) {
            x = atX;
            y = atY;
            r = atR;
            int own = ask(g, x, y, r, left, MOST_K + 1);
            least = own == NONE ? MOST_K + 1 : own;
            int s = step;
            for (rounds = 0; rounds < MOST_ROUNDS && s > 0; rounds++) {
                if (!goOn(g, s, left)) {
                    s /= 2;
                }
            }
            return least <= MOST_K;
        }

        /** One round: whether a less safe CIRCLE came to hand. */
        private boolean goOn(Ground g, int s, boolean left) {
            int best = NONE;
            for (int i = 0; i < 27; i++) {
                int found = ask(g, x + off(i / 9, s), y + off(i / 3 % 3, s), r + off(i % 3, s), left, least);
                if (found != NONE && found < least) {
                    least = found;
                    best = i;
                }
            }
            if (best == NONE) {
                return false;
            }
            x += off(best / 9, s);
            y += off(best / 3 % 3, s);
            r += off(best % 3, s);
            return true;
        }

        private static int off(int third, int s) {
            return (third - 1) * s;
        }
    }

    /**
     * TABLES. For each COLUMN and height it holds the least left over of all SLIPS on their way that
     * have their BASE there, and the first COLUMN of the one that has it (of several the least).
     */
    private static final class Table {
        private final long[] over = new long[MOST_COLUMNS * HEIGHTS];
        private final int[] first = new int[MOST_COLUMNS * HEIGHTS];
        private final int[] weightOn = new int[MOST_COLUMNS * HEIGHTS];
        /** TOPS of both COLUMNS of the SLICES at hand together. */
        private final int[] topsOfBoth = new int[LAYERS];
        private final Slip found = new Slip();
        private Ground g;
        private int t;
        private boolean left;
        private int k;
        private int allStand;
        private long leastOver;
        private int leastFrom;
        private int leastTo;
        private boolean fast;

        private void judge(Ground ground, int bound, boolean goesLeft) {
            g = ground;
            t = bound;
            left = goesLeft;
            found.drop();
            weighAll();
            allStand = 0;
            int high = MOST_K + 1;
            for (int step = 0; step < MIDDLES && high - allStand > 1; step++) {
                int middle = (allStand + high) / 2;
                sweep(middle, true);
                if (leastFrom == NONE || leastOver >= 0) {
                    allStand = middle;
                } else {
                    high = middle;
                }
            }
            if (allStand < MOST_K) {
                sweep(allStand + 1, false);
                goBack();
            }
        }

        private void weighAll() {
            for (int c = 0; c <= g.n; c++) {
                for (int h = g.rock[c]; h <= g.ground[c]; h++) {
                    weightOn[c * HEIGHTS + h] = g.weightOn(c, h);
                }
            }
        }

        /** Goes over all SLIPS at k; when only asked whether all STAND, the first that does not is enough. */
        private void sweep(int at, boolean asked) {
            k = at;
            leastOver = 0;
            leastFrom = NONE;
            leastTo = NONE;
            Arrays.fill(first, NONE);
            for (int c = 0; c <= g.n; c++) {
                over[c * HEIGHTS + g.ground[c]] = 0;
                first[c * HEIGHTS + g.ground[c]] = c;
            }
            for (int c = 0; c < g.n && !(asked && leastFrom != NONE && leastOver < 0); c++) {
                addTops(c);
                for (int h = g.rock[c]; h <= g.ground[c]; h++) {
                    if (first[c * HEIGHTS + h] != NONE) {
                        stepOn(c, h);
                    }
                }
            }
        }

        private void addTops(int c) {
            for (int layer = 0; layer < LAYERS; layer++) {
                topsOfBoth[layer] = g.topAt(layer, c) + g.topAt(layer, c + 1);
            }
        }

        /** All SLICES from COLUMN c at height h to the next COLUMN. */
        private void stepOn(int c, int h) {
            int from = first[c * HEIGHTS + h];
            long so = over[c * HEIGHTS + h];
            int top = g.ground[c + 1];
            int highest = Math.min(top, h + t);
            for (int next = Math.max(g.rock[c + 1], h - t); next <= highest; next++) {
                long then = so + leftOver(c, h, next);
                if (fast) {
                    continue;
                }
                if (next == top) {
                    close(c + 1, from, then);
                } else {
                    pass((c + 1) * HEIGHTS + next, from, then);
                }
            }
        }

        private void close(int to, int from, long then) {
            if (leastFrom == NONE || then < leastOver || then == leastOver && from < leastFrom) {
                leastOver = then;
                leastFrom = from;
                leastTo = to;
            }
        }

        private void pass(int place, int from, long then) {
            if (first[place] == NONE || then < over[place] || then == over[place] && from < first[place]) {
                over[place] = then;
                first[place] = from;
            }
        }

        /** What a SLICE leaves over at k; whether it is FAST stands in fast. */
        private long leftOver(int c, int h, int next) {
            int layer = LAYERS - 1;
            while (layer > 0 && topsOfBoth[layer] <= h + next) {
                layer--;
            }
            int b = g.b;
            int rub = g.rub[layer];
            int rise = left ? next - h : h - next;
            long d = (long) b * k + (long) rise * rub;
            fast = d <= 0;
            if (d <= 0) {
                return 0;
            }
            int weight = b * (weightOn[c * HEIGHTS + h] + weightOn[(c + 1) * HEIGHTS + next]);
            int lift = 10 * b * (g.headOn(c, h) + g.headOn(c + 1, next));
            long strength = 2000L * g.hold[layer] * b + (long) Math.max(0, weight - lift) * rub;
            long rubs = strength * (b * b + rise * rise) * k / d;
            return 1000 * rubs - k * (weight * (1000L * rise + g.quake * b));
        }

        /** From b back to a, always at the least BASE from which the rest comes. */
        private void goBack() {
            if (leastFrom == NONE) {
                return;
            }
            found.span(g, leastFrom, leastTo, left);
            int h = g.ground[leastTo];
            long rest = leastOver;
            for (int c = leastTo - 1; c > leastFrom; c--) {
                addTops(c);
                int highest = Math.min(g.ground[c], h + t);
                for (int low = Math.max(g.rock[c], h - t); low <= highest; low++) {
                    int place = c * HEIGHTS + low;
                    if (first[place] == leastFrom && over[place] + leftOver(c, low, h) == rest && !fast) {
                        found.base[c] = low;
                        rest = over[place];
                        h = low;
                        break;
                    }
                }
            }
        }
    }

    /** THE TAPE, and how it is read as a TEXT. While it is read, at is never at a blank. */
    private static final class Tape {
        private static final int WRONG = 1;
        private static final int BAD_NUMBER = 2;
        private static final int TOLD = 3;
        private static final int HIGH_ROCK = 4;
        private static final int GROUND_LINE = 0;
        private static final int ROCK_LINE = 1;
        private static final int WATER_LINE = 2;
        private static final int LOAD_LINE = 3;
        private static final int QUAKE_LINE = 4;
        private static final int TOP_LINE = 5;
        private static final int SOIL_LINE = 9;
        private static final int ANCHOR_LINE = 13;
        /** Beyond every number that can be, and so small that ten times it fits an int. */
        private static final int HUGE = 1000000;

        private final int[] bytes = new int[MOST_BYTES];
        private int length;
        private int at;
        private int fault;
        private int place = NONE;
        /** Where the latest word or number begins, and where that word ends. */
        private int begin;
        private int wordEnd;
        /** A bit for each line that is told already. */
        private int told;

        private void put(int four) {
            for (int shift = 24; shift >= 0 && length < MOST_BYTES; shift -= 8) {
                bytes[length] = four >>> shift & 255;
                length++;
            }
        }

        /** How many lines; NONE if there is a FAULT. */
        private int read(Ground into) {
            at = 0;
            fault = 0;
            place = NONE;
            told = 0;
            skip();
            if (!readColumns(into)) {
                return NONE;
            }
            int lines = 1;
            while (at < length && lines <= MOST_BYTES) {
                if (!readLine(into)) {
                    return NONE;
                }
                lines++;
            }
            return into.rockIsBelow() ? lines : fail(HIGH_ROCK, length);
        }

        private int fail(int what, int where) {
            fault = what;
            place = where;
            return NONE;
        }

        private void skip() {
            while (at < length && bytes[at] == ' ') {
                at++;
            }
        }

        private boolean sees(int letter) {
            return at < length && bytes[at] == letter;
        }

        private boolean seesFrom(int least, int most) {
            return at < length && bytes[at] >= least && bytes[at] <= most;
        }

        private boolean readEnd() {
            if (!sees(';')) {
                fail(WRONG, at);
                return false;
            }
            at++;
            skip();
            return true;
        }

        /** A number from low to high; NONE, if there is a FAULT. */
        private int readNumber(int low, int high) {
            begin = at;
            int v = 0;
            while (seesFrom('0', '9') && at < length) {
                v = Math.min(HUGE, v * 10 + bytes[at] - '0');
                at++;
            }
            if (at == begin) {
                return fail(WRONG, begin);
            }
            skip();
            return v < low || v > high ? fail(BAD_NUMBER, begin) : v;
        }

        private void readWord() {
            begin = at;
            while (seesFrom('a', 'z') && at < length) {
                at++;
            }
            wordEnd = at;
            skip();
        }

        private boolean isWord(String word) {
            if (word.length() != wordEnd - begin) {
                return false;
            }
            for (int i = 0; i < word.length(); i++) {
                if (bytes[begin + i] != word.charAt(i)) {
                    return false;
                }
            }
            return true;
        }

        private boolean readColumns(Ground into) {
            readWord();
            if (!isWord("columns")) {
                fail(WRONG, begin);
                return false;
            }
            int n = readNumber(4, MOST_COLUMNS - 1);
            if (n == NONE) {
                return false;
            }
            int b = readNumber(1, 10);
            if (b == NONE) {
                return false;
            }
            into.begin(n, b);
            return readEnd();
        }

        private int lineKind() {
            if (isWord("ground")) {
                return GROUND_LINE;
            }
            if (isWord("rock")) {
                return ROCK_LINE;
            }
            if (isWord("water")) {
                return WATER_LINE;
            }
            if (isWord("load")) {
                return LOAD_LINE;
            }
            if (isWord("quake")) {
                return QUAKE_LINE;
            }
            if (isWord("top")) {
                return TOP_LINE;
            }
            if (isWord("soil")) {
                return SOIL_LINE;
            }
            return isWord("anchor") ? ANCHOR_LINE : NONE;
        }

        private boolean readLine(Ground into) {
            readWord();
            int kind = lineKind();
            switch (kind) {
                case GROUND_LINE:
                    return isNew(kind) && readRow(into.ground, 0, into.n, MOST_HEIGHT);
                case ROCK_LINE:
                    return isNew(kind) && readRow(into.rock, 0, into.n, MOST_HEIGHT);
                case WATER_LINE:
                    return isNew(kind) && readRow(into.water, 0, into.n, MOST_HEIGHT);
                case LOAD_LINE:
                    return isNew(kind) && readRow(into.load, 0, into.n, MOST_LOAD);
                case QUAKE_LINE:
                    return isNew(kind) && readQuake(into);
                case TOP_LINE:
                    return readTop(into);
                case SOIL_LINE:
                    return readSoil(into);
                case ANCHOR_LINE:
                    return readAnchor(into);
                default:
                    fail(WRONG, begin);
                    return false;
            }
        }

        /** Whether this line was not told yet; the FAULT is at the latest word or number. */
        private boolean isNew(int line) {
            int bit = 1 << line;
            if ((told & bit) != 0) {
                fail(TOLD, begin);
                return false;
            }
            told |= bit;
            return true;
        }

        private boolean readQuake(Ground into) {
            int q = readNumber(0, MOST_QUAKE);
            into.quake = q;
            return q != NONE && readEnd();
        }

        private boolean readTop(Ground into) {
            int layer = readNumber(1, LAYERS - 1);
            if (layer == NONE || !isNew(TOP_LINE + layer)) {
                return false;
            }
            return readRow(into.tops, topPlace(layer, 0), into.n, MOST_HEIGHT);
        }

        private boolean readSoil(Ground into) {
            int layer = readNumber(0, LAYERS - 1);
            if (layer == NONE || !isNew(SOIL_LINE + layer)) {
                return false;
            }
            int weight = readNumber(1, 30);
            if (weight == NONE) {
                return false;
            }
            int hold = readNumber(0, MOST_HOLD);
            if (hold == NONE) {
                return false;
            }
            int rub = readNumber(0, MOST_RUB);
            into.weight[layer] = weight;
            into.hold[layer] = hold;
            into.rub[layer] = rub;
            return rub != NONE && readEnd();
        }

        private boolean readAnchor(Ground into) {
            int i = readNumber(0, ANCHORS - 1);
            if (i == NONE || !isNew(ANCHOR_LINE + i)) {
                return false;
            }
            int column = readNumber(0, into.n);
            if (column == NONE) {
                return false;
            }
            int height = readNumber(0, MOST_HEIGHT);
            if (height == NONE) {
                return false;
            }
            int pull = readNumber(1, MOST_PULL);
            into.anchorColumn[i] = column;
            into.anchorHeight[i] = height;
            into.anchorPull[i] = pull;
            return pull != NONE && readEnd();
        }

        private boolean readRow(int[] row, int offset, int n, int most) {
            int filled = 0;
            do {
                int v = readNumber(0, most);
                if (v == NONE) {
                    return false;
                }
                int times = readTimes(n + 1 - filled);
                if (times == NONE) {
                    return false;
                }
                for (int i = 0; i < times; i++) {
                    row[offset + filled + i] = v;
                }
                filled += times;
            } while (filled <= n && seesFrom('0', '9'));
            if (filled <= n && sees(';')) {
                fail(BAD_NUMBER, at);
                return false;
            }
            return readEnd();
        }

        private int readTimes(int most) {
            if (!sees('*')) {
                return 1;
            }
            at++;
            skip();
            return readNumber(1, most);
        }
    }
}
