/** The edges that the terms name of a TEXT and its FAULTS, and those of promises 8 to 11: THE TAPE. */
public final class TextEdgesTest {
    private static final int NONE = Edges.NONE;
    private static final String HEAD = "columns 4 4;";

    private static void says(String words) {
        Edges.says(0, words);
    }

    private static void due(String call, long got, long want) {
        Edges.due(call, got, want);
    }

    private static void due(String call, boolean got, boolean want) {
        Edges.due(call, got, want);
    }

    /** A TEXT with a FAULT where ^ stands. */
    private static void faulty(int fault, String marked) {
        int place = marked.indexOf('^');
        String t = marked.substring(0, place) + marked.substring(place + 1);
        SlopeJudge x = Edges.rich();
        x.end(0);
        String before = Edges.ground(x);
        Edges.put(x, t);
        due("text() of \"" + t + "\"", x.text(), NONE);
        due("fault(0) of \"" + t + "\"", x.fault(0), fault);
        due("fault(1) of \"" + t + "\"", x.fault(1), place);
        Edges.due("all there is behind \"" + t + "\"", Edges.ground(x), before);
    }

    /** A line behind the first one with a FAULT where ^ stands. */
    private static void faultyLine(int fault, String marked) {
        faulty(fault, HEAD + marked);
    }

    private static SlopeJudge good(String t, int lines) {
        SlopeJudge x = Edges.rich();
        x.end(0);
        Edges.put(x, t);
        due("text() of \"" + t + "\"", x.text(), lines);
        due("fault(0) of \"" + t + "\"", x.fault(0), 0);
        due("fault(1) of \"" + t + "\"", x.fault(1), NONE);
        return x;
    }

    private static SlopeJudge goodLine(String t) {
        return good(HEAD + t, 2);
    }

    private static void row(String t, int what, int... want) {
        SlopeJudge x = goodLine(t);
        for (int c = 0; c < 5; c++) {
            due("column(" + c + ", " + what + ") of \"" + t + "\"", x.column(c, what), want[c]);
        }
    }

    private static String blanks(int n) {
        return " ".repeat(n);
    }

    private static void whole() {
        says("A TEXT (THE TAPE, 600 bytes at most) tells all anew");
        good(HEAD + blanks(588), 1);
        good(blanks(588) + HEAD, 1);
        faulty(1, blanks(600) + "^");
        faulty(1, HEAD + blanks(583) + "quake^");
        faulty(1, HEAD + blanks(587) + "^x");
        faulty(1, HEAD + blanks(581) + "quake 1^");
        faulty(1, HEAD + blanks(580) + "quake 12^");
        faulty(1, HEAD + blanks(579) + "ground 1*^");
        faulty(1, HEAD + blanks(578) + "ground 1*5^");
        faulty(1, HEAD + blanks(578) + "ground 1*4^");
        faulty(1, HEAD + blanks(580) + "ground 1^");
        good(HEAD + blanks(580) + "quake 1;", 2);
        good(HEAD + blanks(577) + "ground 1*5;", 2);
        faulty(4, HEAD + blanks(578) + "rock 21*5;^");
        SlopeJudge fresh = new SlopeJudge();
        fresh.size(6, 1);
        Edges.due("all anew", Edges.ground(good("columns 6 1;", 1)), Edges.ground(fresh));

        says("\"columns\" N B \";\" { line \";\" }");
        due("n", good("columns 4 1;", 1).look(0), 4);
        due("B", good("columns 4 1;", 1).look(1), 1);
        due("n", good("columns 40 10;", 1).look(0), 40);
        due("B", good("columns 40 10;", 1).look(1), 10);
        faulty(1, "^");
        faulty(1, "^;");
        faulty(1, "^4 4;");
        faulty(1, "^column 4 4;");
        faulty(1, "^quake 1;");
        faulty(1, "columns^");
        faulty(1, "columns^;");
        faulty(1, "columns ^x 4;");
        faulty(1, "columns 4^;");
        faulty(1, "columns 4 ^x;");
        faulty(1, "columns 4 4^");
        faulty(1, "columns 4 4^quake 1;");
        faulty(1, "columns 4 4 ^4;");
        faulty(1, "columns 4 4;^;");
        faulty(1, "columns 4 4;quake 1;^;");
        faulty(1, "columns 4 4;^5;");
        faulty(1, "columns 4 4;^*;");
        faulty(1, "columns 4 4;^columns 4 4;");
        faulty(2, "columns ^3 4;");
        faulty(2, "columns ^0 4;");
        faulty(2, "columns ^41 4;");
        faulty(2, "columns 4 ^0;");
        faulty(2, "columns 4 ^11;");
        good("columns 4 4;ground 30*5;rock 1*5;water 2*5;load 3*5;quake 4;top 1 5*5;top 2 6*5;top 3 7*5;soil 0 1 1 1;soil 1 1 1 1;"
                + "soil 2 1 1 1;soil 3 1 1 1;anchor 0 0 0 1;anchor 1 0 0 1;anchor 2 0 0 1;anchor 3 0 0 1;anchor 4 0 0 1;anchor 5 0 0 1;", 19);
        good("columns 4 4;anchor 5 0 0 1;anchor 0 0 0 1;soil 3 1 1 1;top 3 7*5;top 1 5*5;quake 4;load 3*5;ground 30*5;", 9);
    }

    private static void lines() {
        says("line = (\"ground\" | \"rock\" | \"water\" | \"top\" L | \"load\") RUN { RUN } | \"soil\" L W H R | \"quake\" Q | \"anchor\" I C Y P.");
        row("ground 0 100 20 1 99;", 0, 0, 100, 20, 1, 99);
        row("rock 0 20 1 19 2;", 1, 0, 20, 1, 19, 2);
        row("water 0 20 1 19 100;", 2, 0, 20, 1, 19, 20);
        row("load 0 500 1 499 2;", 3, 0, 500, 1, 499, 2);
        row("top 1 0 20 1 19 100;", 5, 0, 20, 1, 19, 20);
        for (String word : new String[] {"ground", "rock", "water", "load", "top 1", "top 2", "top 3"}) {
            faultyLine(1, word + "^;");
            faultyLine(1, word + "^");
            faultyLine(1, word + " ^x;");
            faultyLine(1, word + "^*5;");
            int most = word.equals("load") ? 500 : 100;
            faultyLine(2, word + " ^" + (most + 1) + "*5;");
            faultyLine(2, word + " 0*4 ^" + (most + 1) + ";");
            good(HEAD + "ground 100*5;" + (word.equals("ground") ? "" : word + " " + most + "*5;"), word.equals("ground") ? 2 : 3);
            goodLine(word + " 0*5;");
        }
        due("soil 3 1 0 0", goodLine("soil 3 1 0 0;").layer(3, 0), 1);
        due("soil 3 30 200 1500", goodLine("soil 3 30 200 1500;").layer(3, 2), 1500);
        due("soil 0 30 200 1500", goodLine("soil 0 30 200 1500;").layer(0, 1), 200);
        String[] soils = {"soil^;", "soil 0^;", "soil 0 1^;", "soil 0 1 1^;", "soil 0 1 1 1 ^1;", "soil ^x;", "soil 0 ^x;", "soil 0 1 ^x;",
            "soil 0 1 1 ^x;", "soil 0 1 1 1 ^x;", "soil 0 1 1 1^", "soil 0 1 1^", "soil^", "soil 0^*1 1 1;"};
        for (String s : soils) {
            faultyLine(1, s);
        }
        String[] soilNumbers = {"soil 0 ^0 1 1;", "soil 0 ^31 1 1;", "soil 0 1 ^201 1;", "soil 0 1 1 ^1501;"};
        for (String s : soilNumbers) {
            faultyLine(2, s);
        }
        due("quake 0", goodLine("quake 0;").look(2), 0);
        due("quake 500", goodLine("quake 500;").look(2), 500);
        faultyLine(2, "quake ^501;");
        faultyLine(1, "quake^;");
        faultyLine(1, "quake^");
        faultyLine(1, "quake 1^");
        faultyLine(1, "quake 1 ^1;");
        faultyLine(1, "quake 1^*1;");
        SlopeJudge least = goodLine("anchor 0 0 0 1;");
        SlopeJudge most = goodLine("anchor 5 4 100 500;");
        int[] wantLeast = {0, 0, 1};
        int[] wantMost = {4, 100, 500};
        for (int what = 0; what < 3; what++) {
            due("the least anchor", least.anchored(0, what), wantLeast[what]);
            due("the most of an anchor", most.anchored(5, what), wantMost[what]);
        }
        due("it alone", most.look(3), 32);
        String[] anchors = {"anchor^;", "anchor 0^;", "anchor 0 0^;", "anchor 0 0 0^;", "anchor 0 0 0 1 ^1;", "anchor ^x;", "anchor 0 ^x;",
            "anchor 0 0 ^x;", "anchor 0 0 0 ^x;", "anchor 0 0 0 1 ^x;", "anchor 0 0 0 1^", "anchor 0 0 0^", "anchor^"};
        for (String a : anchors) {
            faultyLine(1, a);
        }
        String[] anchorNumbers = {"anchor ^6 0 0 1;", "anchor 0 ^5 0 1;", "anchor 0 0 ^101 1;", "anchor 0 0 0 ^0;", "anchor 0 0 0 ^501;"};
        for (String a : anchorNumbers) {
            faultyLine(2, a);
        }
        due("column n of many", good("columns 40 1;anchor 0 40 0 1;", 2).anchored(0, 0), 40);
        faulty(2, "columns 40 1;anchor 0 ^41 0 1;");
        String[] words = {"^grounds 1*5;", "^groun 1*5;", "^rocks 1*5;", "^hock 1*5;", "^waters 1*5;", "^wate 1*5;", "^tops 1 1*5;", "^to 1 1*5;",
            "^loads 1*5;", "^loan 1*5;", "^soils 0 1 1 1;", "^soi 0 1 1 1;", "^quakes 1;", "^quak 1;", "^anchors 0 0 0 1;", "^anchos 0 0 0 1;", "^x", "^a;"};
        for (String w : words) {
            faultyLine(1, w);
        }
    }

    private static void runs() {
        says("RUN = V [ \"*\" T ]: V for T COLUMNS (1 without), from COLUMN 0 on; n + 1 in all (a V behind these can't stand there).");
        row("ground 1 2 3 4 5;", 0, 1, 2, 3, 4, 5);
        row("ground 7*5;", 0, 7, 7, 7, 7, 7);
        row("ground 7*1 8*4;", 0, 7, 8, 8, 8, 8);
        row("ground 7*4 8;", 0, 7, 7, 7, 7, 8);
        row("ground 7 8*3 9*1;", 0, 7, 8, 8, 8, 9);
        row("ground 7*4 8*1;", 0, 7, 7, 7, 7, 8);
        faultyLine(1, "ground 1*5 ^1;");
        faultyLine(1, "ground 1 2 3 4 5 ^6;");
        faultyLine(1, "ground 1*5 ^1*1;");
        faultyLine(1, "ground 1*3 1*2 ^1");
        faultyLine(1, "ground 1*5^*1;");
        faultyLine(1, "ground 1*2^*3;");
        faultyLine(1, "ground 1*5 ^x;");
        faultyLine(1, "ground 1*5^");
        faultyLine(1, "ground 1*^;");
        faultyLine(1, "ground 1*^");
        faultyLine(1, "ground 1*^*5;");
        faultyLine(1, "ground 1*^x;");
        SlopeJudge wide = good("columns 40 1;ground 30*40 31;", 2);
        due("the last but one", wide.column(39, 0), 30);
        due("the last", wide.column(40, 0), 31);
        faulty(1, "columns 40 1;ground 30*41 ^31;");

        says("L of top 1 .. 3, of soil 0 .. 3.");
        faultyLine(2, "top ^0 1*5;");
        faultyLine(2, "top ^4 1*5;");
        faultyLine(2, "soil ^4 1 1 1;");
        for (int layer = 0; layer < 4; layer++) {
            due("soil " + layer, goodLine("soil " + layer + " 3 4 5;").layer(layer, 1), 4);
            SlopeJudge x = good(HEAD + "top 1 20*5;top 2 20*5;top 3 20*5;", 4);
            due("top of " + layer, x.column(4, 4 + layer), 20);
        }
        for (int layer = 1; layer < 4; layer++) {
            SlopeJudge x = goodLine("top " + layer + " 9 8 7 6 5;");
            x.tell(3, 3, layer == 1 ? 6 : 100);
            x.tell(3, 4, layer == 2 ? 6 : 100);
            x.tell(3, 5, layer == 3 ? 6 : 100);
            due("top " + layer, x.column(3, 4 + layer), 6);
            due("ahead of it", x.column(3, 3 + layer), 20);
        }

        says("What is not told is as at first.");
        String first = Edges.ground(good(HEAD, 1));
        SlopeJudge fresh = new SlopeJudge();
        fresh.size(4, 4);
        Edges.due("nothing but columns", first, Edges.ground(fresh));
        fresh.quake(3);
        Edges.due("nothing but a quake", Edges.ground(goodLine("quake 3;")), Edges.ground(fresh));
        fresh.quake(0);
        fresh.soil(2, 3, 4, 5);
        Edges.due("nothing but soil 2", Edges.ground(goodLine("soil 2 3 4 5;")), Edges.ground(fresh));
    }

    private static void signs() {
        says("Words, numbers as many letters a .. z, digits as stand there; blanks (32) may stand ahead of all and at the end.");
        due("no blanks", good("columns4 4;ground1*5;quake5;soil0 1 1 1;top1 0*5;anchor0 0 0 1;", 6).look(2), 5);
        due("many blanks", good("  columns  4   4  ;  ground  1  *  5  ;  quake  5  ;   ", 3).look(2), 5);
        due("a blank ahead of *", goodLine("ground 1 *5;").column(4, 0), 1);
        due("a blank behind *", goodLine("ground 1* 5;").column(4, 0), 1);
        faulty(1, "   ^");
        faulty(1, "^col umns 4 4;");
        faulty(2, "columns ^44;");
        faulty(2, "columns ^204 4;");
        faulty(1, "columns ^;");
        faulty(1, "^columnsz 4 4;");
        faulty(1, "^columnsa 4 4;");
        faulty(1, "^zcolumns 4 4;");
        faultyLine(1, "^quakez 1;");
        faultyLine(1, "^zquake 1;");
        faultyLine(1, "^groundx 1*5;");
        faultyLine(1, "^qua ke 5;");
        faultyLine(1, "quake 5 ^0;");
        faultyLine(1, "quake 5^x;");
        faultyLine(1, "^Quake 5;");
        faultyLine(1, "^quaKe 5;");
        faultyLine(1, "quake ^-5;");
        faultyLine(1, "quake ^+5;");
        faultyLine(1, "quake 5^.0;");
        faultyLine(1, "quake 5^,");
        // the signs just beside digits, letters, the blank and ;
        for (int sign : new int[] {0, 9, 10, 13, 31, 33, 47, 58, 60, 96, 123, 127, 128, 160, 176, 217, 255}) {
            faultyLine(1, "^" + (char) sign);
            faultyLine(1, "^" + (char) sign + "quake 5;");
            faultyLine(1, "quake^" + (char) sign + "5;");
            faultyLine(1, "quake 5^" + (char) sign + ";");
            faultyLine(1, "quake 5;^" + (char) sign);
            faultyLine(1, "ground 1^" + (char) sign + "5;");
            faulty(1, "^" + (char) sign + HEAD);
            faulty(1, "columns^" + (char) sign + "4 4;");
        }
        due("digits from 0 to 9", goodLine("ground 10 32 54 76 98;").column(4, 0), 98);
        due("zeros ahead", good("columns 004 0000000000000000000000004;quake 00000000000000000000000500;", 2).look(2), 500);
        String[] huge = {"1000", "9999", "2147483647", "2147483648", "4294967295", "4294967296", "4294967297", "4294967300", "9223372036854775808",
            "18446744073709551616", "18446744073709551620", "10000000000000000000000000000000000000004", "1" + "0".repeat(200)};
        for (String h : huge) {
            faulty(2, "columns ^" + h + " 4;");
            faulty(2, "columns 4 ^" + h + ";");
            faultyLine(2, "quake ^" + h + ";");
            faultyLine(2, "ground ^" + h + "*5;");
            faultyLine(2, "ground 1*^" + h + ";");
            faultyLine(2, "top ^" + h + " 1*5;");
            faultyLine(2, "soil ^" + h + " 1 1 1;");
            faultyLine(2, "anchor ^" + h + " 1 1 1;");
            faultyLine(2, "anchor 0 ^" + h + " 1 1;");
            faultyLine(2, "anchor 0 0 0 ^" + h + ";");
        }
    }

    private static void faults() {
        says("FAULTS, the first by its place (from 0; the end: the text's length), at one place the least");
        faulty(2, "columns ^3 99;;");
        faulty(2, "columns 4 ^99;;");
        faultyLine(2, "ground ^101*9;");
        faultyLine(2, "ground 1*^9;x");
        faultyLine(2, "quake ^501;;");
        faultyLine(1, "^;quake 501;");
        faultyLine(3, "quake 1;^quake 501;");
        faultyLine(2, "quake 1;soil ^4;quake 1;");
        faultyLine(1, "rock 21*5;^x");
        faultyLine(2, "rock 21*5;quake ^501;");
        faultyLine(3, "rock 21*5;quake 1;^quake 1;");
        faultyLine(1, "ground^;");
        faultyLine(1, "top 1^;");
        faultyLine(1, "ground 1*5 ^999;");
        faultyLine(1, "rock 21*5^");
        faultyLine(1, "rock 21*5;quake^");
        faultyLine(1, "rock 21*5;quake 1^");
        faultyLine(1, "^columns 3 99;");
        faulty(1, "^");
        faulty(1, "     ^");

        says("1 what can't stand there");
        faultyLine(1, "^1;");
        faultyLine(1, "^*;");
        faultyLine(1, "ground ^ground 1*5;");
        faultyLine(1, "ground 1*4 ^ground 1*5;");
        faultyLine(1, "quake 1 ^quake 1;");
        faultyLine(1, "soil ^soil;");

        says("2 a number that can't be (a T by which there would be more COLUMNS: at it; a row with fewer: at its ;)");
        faultyLine(2, "ground 1*^6;");
        faultyLine(2, "ground 1*^0 1*5;");
        faultyLine(2, "ground 1*1 1*^5;");
        faultyLine(2, "ground 1*4 1*^2;");
        faultyLine(2, "ground 1 1 1 1 1*^2;");
        faultyLine(2, "load 1*  ^6 ;");
        faultyLine(2, "ground 1^;");
        faultyLine(2, "ground 1*4^;");
        faultyLine(2, "ground 1*4  ^;");
        faultyLine(2, "ground 1 1 1 1^;");
        faultyLine(2, "top 2 1*4^;");
        faultyLine(2, "rock 1*4^;");
        faultyLine(2, "water 1*4^;");
        faultyLine(2, "load 1*4^;");
        faultyLine(1, "ground 1*4^");
        faultyLine(1, "ground 1*4 ^x;");
        faulty(2, "columns 40 1;ground 1*^42;");
        faulty(2, "columns 40 1;ground 1*40^;");
        faulty(2, "columns 4 1;ground 1*^41;");

        says("3 a line told already (at its word; of top, soil, anchor: at its number)");
        for (String word : new String[] {"ground 20*5;", "rock 1*5;", "water 1*5;", "load 1*5;", "quake 1;"}) {
            faultyLine(3, word + "^" + word);
            faultyLine(3, word + "soil 0 1 1 1;  ^" + word);
            faultyLine(3, word + "^" + word.replaceAll("[^a-z]", ""));
        }
        for (int i = 0; i < 6; i++) {
            if (i >= 1 && i <= 3) {
                faultyLine(3, "top " + i + " 0*5;top ^" + i + " 0*5;");
            }
            if (i <= 3) {
                faultyLine(3, "soil " + i + " 1 1 1;soil ^" + i + " 1 1 1;");
                faultyLine(3, "soil " + i + " 1 1 1;soil ^0" + i);
                goodPair("soil " + i + " 1 1 1;", "soil " + (i + 1) % 4 + " 1 1 1;");
            }
            faultyLine(3, "anchor " + i + " 1 1 1;anchor ^" + i + " 2 2 2;");
            goodPair("anchor " + i + " 1 1 1;", "anchor " + (i + 1) % 6 + " 1 1 1;");
        }
        goodPair("top 1 1*5;", "top 2 1*5;");
        goodPair("top 3 1*5;", "soil 3 1 1 1;");
        goodPair("soil 1 1 1 1;", "anchor 1 1 1 1;");
        goodPair("top 1 1*5;", "quake 1;");
        goodPair("top 3 1*5;", "soil 0 1 1 1;");
        goodPair("soil 3 1 1 1;", "anchor 0 1 1 1;");

        says("4 ROCK above GROUND somewhere (at the end)");
        for (int c = 0; c < 5; c++) {
            StringBuilder rock = new StringBuilder("rock");
            for (int i = 0; i < 5; i++) {
                rock.append(i == c ? " 21" : " 20");
            }
            faultyLine(4, rock + ";^");
            faultyLine(4, rock + ";quake 1;  ^");
            good(HEAD + rock + ";ground 21*5;", 3);
        }
        faultyLine(4, "rock 1*5;ground 0*5;^");
        goodLine("rock 20*5;");
        good(HEAD + "rock 100*5;ground 100*5;", 3);
        faultyLine(4, "ground 99*5;rock 100*5;^");
        good("columns 40 1;rock 20*41;", 2);
        faulty(4, "columns 40 1;rock 20*40 21;^");
    }

    private static void goodPair(String one, String other) {
        good(HEAD + one + other, 3);
        good(HEAD + other + one, 3);
    }

    private static void feeds() {
        Edges.says(8, "Twenty bytes come behind THE TAPE, of each number the highest first: how many it has; NONE, and none come, if it would have more than 600.");
        SlopeJudge x = new SlopeJudge();
        // "columns 4 2;quake 9;"
        due("feed", x.feed(0x636f6c75, 0x6d6e7320, 0x3420323b, 0x7175616b, 0x6520393b), 20);
        due("text()", x.text(), 2);
        due("n", x.look(0), 4);
        due("B", x.look(1), 2);
        due("quake", x.look(2), 9);
        // a byte of 128 and more is a byte, too: the fault is at it
        due("feed", x.feed(0x20202080, 0, 0, 0, 0), 20);
        due("text()", x.text(), NONE);
        due("its place", x.fault(1), 3);
        due("feed", x.feed(0x80000000, -1, -1, -1, -1), 20);
        due("text()", x.text(), NONE);
        due("its place", x.fault(1), 0);
        SlopeJudge full = new SlopeJudge();
        for (int i = 1; i <= 30; i++) {
            due("feed " + i, full.feed(0x20202020, 0x20202020, 0x20202020, 0x20202020, 0x20202020), 20 * i);
        }
        for (int length = 600; length > 580; length--) {
            due("end", full.end(length), true);
            due("feed to " + length, full.feed(-1, -1, -1, -1, -1), NONE);
            due("look(10)", full.look(10), length);
        }
        due("end", full.end(580), true);
        due("feed to 580", full.feed(0x20202020, 0x20202020, 0x20202020, 0x20202020, 0x20202020), 600);
        due("none came, so all are blanks", full.text() * 1000 + full.fault(1), -1000 + 600);
        SlopeJudge cut = new SlopeJudge();
        Edges.put(cut, "columns 4 4;" + blanks(570));
        due("look(10)", cut.look(10), 582);
        due("feed", cut.feed(-1, -1, -1, -1, -1), NONE);
        due("text()", cut.text(), 1);

        Edges.says(9, "THE TAPE has its first n bytes alone: true; false if it has not so many, or n is below 0.");
        SlopeJudge e = new SlopeJudge();
        due("end(0) of none", e.end(0), true);
        due("end(1) of none", e.end(1), false);
        Edges.put(e, "columns 4 4;quake 7;");
        due("end(21)", e.end(21), false);
        due("end(-1)", e.end(-1), false);
        due("end(least)", e.end(Edges.LEAST), false);
        due("end(most)", e.end(Edges.MOST), false);
        due("look(10)", e.look(10), 20);
        due("end(20)", e.end(20), true);
        due("look(10)", e.look(10), 20);
        due("end(12)", e.end(12), true);
        due("look(10)", e.look(10), 12);
        due("end(13)", e.end(13), false);
        Edges.put(e, "quake 8;");
        due("text()", e.text(), 2);
        due("behind the first bytes alone", e.look(2), 8);
        // what is cut off is not read: a ; a digit, a letter, a * and a blank behind the end
        String[] cuts = {"columns 4 4|;", "columns 4 4;quake 1|;", "columns 4 4;quake 1|2;", "columns 4 4;qua|ke 1;", "columns 4 4;ground 1|*5;",
            "columns 4 4;ground 1*5|;", "columns 4 4;quake 1| ;", "columns 4 4;ground 1*|5;", "columns 4 4;|quake", "columns 4 4;rock 21*5;| "};
        int[] faults = {1, 1, 1, 1, 1, 1, 1, 1, 0, 4};
        int[] places = {11, 19, 19, 12, 20, 22, 19, 21, NONE, 22};
        for (int i = 0; i < cuts.length; i++) {
            Edges.put(e, cuts[i].replace("|", ""));
            e.end(cuts[i].indexOf('|'));
            due("text() of " + cuts[i], e.text(), faults[i] == 0 ? 1 : NONE);
            due("fault(0) of " + cuts[i], e.fault(0), faults[i]);
            due("fault(1) of " + cuts[i], e.fault(1), places[i]);
        }
        Edges.put(e, "columns 4 4;");
        due("end(0)", e.end(0), true);
        due("text() of none", e.text() * 10 + e.fault(1), -10);
    }

    private static void texts() {
        Edges.says(10, "THE TAPE (empty then) is a TEXT: how many lines (columns, too)");
        SlopeJudge x = new SlopeJudge();
        Edges.put(x, "columns 4 4;quake 7;");
        due("text()", x.text(), 2);
        due("look(10)", x.look(10), 0);
        due("end(1)", x.end(1), false);
        due("an act", x.look(9), 1);
        due("text() of the empty tape", x.text(), NONE);
        Edges.put(x, "columns 4 3;");
        due("text()", x.text(), 1);
        due("look(10)", x.look(10), 0);
        Edges.put(x, "columns 4 4;x");
        due("with a fault", x.text(), NONE);
        due("empty then, too", x.look(10), 0);

        Edges.says(10, "NONE, and all stays, if there is a FAULT.");
        for (String t : new String[] {"", "columns 5 1;quake 500;quake 1;", "columns 5 1;soil 0 1 2 1501;", "columns 5 1;rock 21*6;",
            "columns 5 1;anchor 0 1 1 501;", "columns 5 1;ground 3*5;"}) {
            SlopeJudge y = Edges.rich();
            String ground = Edges.ground(y);
            String report = Edges.reported(y);
            y.end(0);
            Edges.put(y, t);
            due("text() of \"" + t + "\"", y.text(), NONE);
            Edges.due("the ground", Edges.ground(y), ground);
            Edges.due("the report", Edges.reported(y), report);
            due("points", y.look(8), 5);
            due("acts", y.look(9), 4);
            due("state", y.look(13), -77);
            due("the image", y.image(false), true);
        }

        Edges.says(11, "Of the latest text() what 0 FAULT (0 without), 1 its place (NONE).");
        SlopeJudge f = new SlopeJudge();
        due("fault(0) ahead of all", f.fault(0), 0);
        due("fault(1) ahead of all", f.fault(1), NONE);
        f.text();
        due("fault(0)", f.fault(0), 1);
        due("fault(1)", f.fault(1), 0);
        Edges.put(f, "columns 4 44;");
        due("fault(0) of the latest text", f.fault(0), 1);
        f.text();
        due("fault(0)", f.fault(0), 2);
        due("fault(1)", f.fault(1), 10);
        f.size(4, 4);
        f.undo();
        f.image(true);
        f.image(false);
        due("fault(0) stays", f.fault(0), 2);
        due("fault(1) stays", f.fault(1), 10);
        Edges.put(f, "columns 4 4;");
        f.text();
        due("fault(0) without", f.fault(0), 0);
        due("fault(1) without", f.fault(1), NONE);

        Edges.says(11, "NONE for another what.");
        for (int what : new int[] {-1, 2, Edges.LEAST, Edges.MOST}) {
            due("fault(" + what + ") without", f.fault(what), NONE);
            Edges.idle("fault(" + what + ")", Edges::rich, y -> y.fault(what), NONE);
        }
    }

    public static void main(String[] args) {
        whole();
        lines();
        runs();
        signs();
        faults();
        feeds();
        texts();
        Edges.end();
    }
}
