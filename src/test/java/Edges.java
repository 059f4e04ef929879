import java.io.IOException;
import java.nio.charset.StandardCharsets;
import java.nio.file.Files;
import java.nio.file.Path;

/** What the tests of edges share: each check stands under the words of the document that ask for it. */
final class Edges {
    static final int NONE = -1;
    static final int LEAST = Integer.MIN_VALUE;
    static final int MOST = Integer.MAX_VALUE;
    static final long NO_SLICE = -10000000000000L;
    static final long NO_THRUST = -10000000000000000L;
    private static final String DOCUMENT = read();
    private static String words = "";
    private static int sentences;
    private static int checks;
    private static int checksOfWords = 1;
    private static int wrong;

    interface Call {
        long on(SlopeJudge x);
    }

    interface Maker {
        SlopeJudge make();
    }

    private Edges() {
    }

    private static String read() {
        try {
            String all = new String(Files.readAllBytes(Path.of("../shared/DOC.md")), StandardCharsets.UTF_8);
            return all.replaceAll("\\s+", " ");
        } catch (IOException e) {
            System.out.println("the document can't be read: " + e);
            System.exit(1);
            return "";
        }
    }

    private static String section(int promise) {
        String begin = promise == 0 ? "## Terms " : "## Promise " + promise + ": ";
        int from = DOCUMENT.indexOf(begin);
        int to = DOCUMENT.indexOf(" ## ", from + 1);
        return from < 0 || to < 0 ? "" : DOCUMENT.substring(from, to);
    }

    /** What follows is asked for by these words, of the terms (0) or of a promise. */
    static void says(int promise, String sentence) {
        endOfWords();
        words = (promise == 0 ? "terms" : "promise " + promise) + ", \"" + sentence + "\"";
        sentences++;
        checksOfWords = 0;
        if (!section(promise).contains(sentence)) {
            fail("the document does not say so");
        }
    }

    private static void endOfWords() {
        if (checksOfWords == 0) {
            fail("nothing is held against it");
        }
    }

    private static void fail(String what) {
        wrong++;
        System.out.println(words + ": " + what);
    }

    static void due(String call, long got, long want) {
        checks++;
        checksOfWords++;
        if (got != want) {
            fail(call + " answered " + got + ", due is " + want);
        }
    }

    static void due(String call, boolean got, boolean want) {
        due(call, bit(got), bit(want));
    }

    static void due(String call, String got, String want) {
        checks++;
        checksOfWords++;
        if (!got.equals(want)) {
            fail(call + " is \"" + got + "\", due is \"" + want + "\"");
        }
    }

    static long bit(boolean b) {
        return b ? 1 : 0;
    }

    /** The call answers so, and nothing is other than it was. */
    static void idle(String call, Maker maker, Call it, long want) {
        SlopeJudge x = maker.make();
        String before = all(x);
        due(call, it.on(x), want);
        due("all there is behind " + call, all(x), before);
    }

    /** All that can be asked without being changed; of a small ground some 150 calls. */
    static String all(SlopeJudge x) {
        StringBuilder b = new StringBuilder(ground(x)).append(" look");
        for (int what : new int[] {8, 9, 10, 13}) {
            b.append(' ').append(x.look(what));
        }
        b.append(" fault ").append(x.fault(0)).append(' ').append(x.fault(1));
        return b.append(" report ").append(reported(x)).toString();
    }

    /** What an ACT keeps: all that a TEXT tells, and the SLIP. */
    static String ground(SlopeJudge x) {
        StringBuilder b = new StringBuilder("look");
        for (int what : new int[] {0, 1, 2, 3, 4, 5, 6, 7, 11, 12}) {
            b.append(' ').append(x.look(what));
        }
        for (int c = 0; c <= x.look(0); c++) {
            b.append(" column ").append(c);
            for (int what = 0; what < 9; what++) {
                b.append(' ').append(x.column(c, what));
            }
        }
        for (int layer = 0; layer < 4; layer++) {
            b.append(" layer ").append(layer);
            for (int what = 0; what < 3; what++) {
                b.append(' ').append(x.layer(layer, what));
            }
        }
        for (int i = 0; i < 6; i++) {
            b.append(" anchor ").append(i);
            for (int what = 0; what < 4; what++) {
                b.append(' ').append(x.anchored(i, what));
            }
        }
        return b.toString();
    }

    static String reported(SlopeJudge x) {
        StringBuilder b = new StringBuilder();
        for (int i = 0; i < 40 && x.sign(i) != NONE; i++) {
            b.append((char) x.sign(i));
        }
        return b.toString();
    }

    /** Puts a text behind what is on the tape, without what pads it. */
    static void put(SlopeJudge x, String t) {
        int was = x.look(10);
        for (int at = 0; at < t.length(); at += 20) {
            int[] v = new int[5];
            for (int i = 0; i < 20; i++) {
                v[i / 4] = v[i / 4] << 8 | (at + i < t.length() ? t.charAt(at + i) : 0);
            }
            x.feed(v[0], v[1], v[2], v[3], v[4]);
        }
        x.end(was + t.length());
    }

    static SlopeJudge told(String t) {
        SlopeJudge x = new SlopeJudge();
        put(x, t);
        if (x.text() == NONE) {
            fail("can't be told: " + t + ": " + x.fault(0) + " at " + x.fault(1));
        }
        return x;
    }

    /** The SLIP of POINTS at COLUMNS from first on, side by side; at its ends the heights are of no matter. */
    static SlopeJudge slipped(SlopeJudge x, boolean left, int first, int... heights) {
        x.point(NONE, 0);
        for (int i = 0; i < heights.length; i++) {
            x.point(first + i, heights[i]);
        }
        if (x.points(left) != heights.length - 1) {
            fail("no such slip");
        }
        return x;
    }

    /** All that there can be, something of each: a SLIP, POINTS, ACTS, an IMAGE, a TAPE, a FAULT, a REPORT. */
    static SlopeJudge rich() {
        SlopeJudge x = told("columns 4 3; ground 20 20 22 24 24; rock 0 1 2 3 4; water 30 12 9 0 0; load 1 2 3 4 5;"
                + "top 1 15*5; top 2 18*5; top 3 6*5; soil 0 10 10 300; soil 2 30 40 500; quake 100;"
                + "anchor 2 1 99 7; anchor 5 4 50 8;");
        x.image(true);
        x.dig(4, 1);
        x.mirror();
        x.mirror();
        slipped(x, true, 0, 20, 17, 16, 19, 23);
        x.report();
        x.state(-77);
        put(x, "quake 7;");
        x.text();
        put(x, "columns 6 1;");
        return x;
    }

    static void end() {
        endOfWords();
        System.out.println(sentences + " sentences, " + checks + " answers, " + wrong + " wrong");
        if (wrong != 0) {
            System.exit(1);
        }
    }
}
