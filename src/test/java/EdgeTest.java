/**
 * The document's sentences that name an edge, one behind the other: too small, too large, empty, full, a
 * ring that wraps around, a refused call. Each check quotes the words that it is about.
 */
public final class EdgeTest {
    private static final String PATH = "net 4:0-1,1-2,2-3;";
    private static final String STAR9 = "net 9:0-1,0-2,0-3,0-4,0-5,0-6,0-7,0-8;";
    private static final String FULL8 = "net 8:0-1=9,0-2=9,0-3=9,0-4=9,0-5=9,0-6=9,0-7=9,"
            + "1-2=9,1-3=9,1-4=9,1-5=9,1-6=9,1-7=9,2-3=9,2-4=9,2-5=9,2-6=9,2-7=9,"
            + "3-4=9,3-5=9,3-6=9,3-7=9,4-5=9,4-6=9,4-7=9,5-6=9,5-7=9,6-7=9;";
    private static final int ROWS8 = 40320;
    private static final Check CHECK = new Check("EdgeTest");

    private EdgeTest() {
    }

    private static void edge(String words, int got, int want) {
        CHECK.due("\"" + words + "\"", got, want);
    }

    private static void is(String words, ThinRow x, int slot, String text) {
        CHECK.same("\"" + words + "\"", Check.text(x, slot), text);
    }

    /** Answer, fault and place of a text; 0 and NONE without a fault. */
    private static void read(String words, String text, int answer, int fault, int place) {
        ThinRow x = new ThinRow();
        String of = words + "\" of \"" + text.replace("\n", "\\n");
        edge(of, Check.told(x, 0, text), answer);
        edge(of + "\", the fault", x.fault(0), fault);
        edge(of + "\", its place", x.fault(1), place);
    }

    private static void good(String words, String text, int lines) {
        read(words, text, lines, 0, -1);
    }

    private static void bad(String words, String text, int fault, int place) {
        read(words, text, -4, fault, place);
    }

    /** A net of nine points with so many lines, not closed. */
    private static String lines(int count) {
        StringBuilder text = new StringBuilder("net 9");
        int come = 0;
        for (int a = 0; a < 9; a++) {
            for (int b = a + 1; b < 9 && come < count; b++) {
                text.append(come == 0 ? ':' : ',').append(a).append('-').append(b);
                come++;
            }
        }
        return text.toString();
    }

    // ---- what it is

    private static void calls() {
        ThinRow x = new ThinRow();
        x.feed(0x6e657420, 0x343b0000, 0, 0, 0);
        x.end(6);
        x.told(0);
        for (int call = 4; call <= 511; call++) {
            edge("at most 512 calls, call " + call, x.swaps(0, 0, 3), call % 2 == 0 ? 0 : 3);
        }
        edge("at most 512 calls, the last", x.undo(), 9);
    }

    // ---- term I

    private static void nets() {
        bad("N 1 .. 9", "net 0;", 2, 4);
        good("N 1 .. 9", "net 1;", 0);
        good("N 1 .. 9", "net 9;", 0);
        bad("N 1 .. 9", "net 10;", 2, 4);
        good("POINTS 0 .. N less 1", "net 3:0-2;", 1);
        bad("POINTS 0 .. N less 1, A", "net 3:3-0;", 2, 6);
        bad("POINTS 0 .. N less 1, B", "net 3:0-3;", 2, 8);
        bad("POINTS 0 .. N less 1, one alone", "net 1:0-1;", 2, 8);
        bad("between two unlike ones", "net 3:2-2;", 2, 8);
        bad("between two unlike ones, one alone", "net 1:0-0;", 2, 8);
        good("30 at most", lines(29) + ";", 29);
        good("30 at most", lines(30) + ";", 30);
        bad("30 at most", lines(31) + ";", 4, lines(30).length() + 1);
        bad("each two once", "net 3:0-1,0-1;", 3, 12);
        bad("each two once, the other way", "net 3:0-1,1-0;", 3, 12);
        bad("each two once, as the last", lines(29) + ",0-1;", 3, lines(29).length() + 3);
        bad("a weight 1 .. 9", "net 3:0-1=0;", 2, 10);
        good("a weight 1 .. 9", "net 3:0-1=1;", 1);
        good("a weight 1 .. 9", "net 3:0-1=9;", 1);
        bad("a weight 1 .. 9", "net 3:0-1=10;", 2, 10);
        edge("(1 without)", Check.with("net 2:0-1;").line(0, 0, 1), 1);
        edge("(1 without), behind another weight", Check.with("net 3:0-1=9,1-2;").line(0, 1, 2), 1);
    }

    private static void digits() {
        bad("N digits, less", "net 3;row 01;", 5, 10);
        good("N digits", "net 3;row 012;", 0);
        bad("N digits, more", "net 3;row 0120;", 5, 10);
        good("N digits, one", "net 1;row 0;", 0);
        bad("N digits, one too many", "net 1;row 00;", 5, 10);
        bad("all POINTS, one alone", "net 1;row 1;", 5, 10);
        bad("N digits, nine and none more", "net 9;row 0123456789;", 5, 10);
        good("N digits, nine", "net 9;row 876543210;", 0);
        bad("one TOKEN", "net 3;row 01 2;", 5, 10);
        bad("one TOKEN, two of N", "net 3;row 012 012;", 1, 14);
        bad("all POINTS", "net 3;row 013;", 5, 10);
        bad("all POINTS, the greatest digit", "net 3;row 912;", 5, 10);
        bad("each once", "net 3;row 010;", 5, 10);
        bad("DIGITS, none", "net 3;row ;", 1, 10);
        bad("DIGITS, a word", "net 3;row abc;", 1, 10);
        edge("without: 0, 1, ..", Check.row(Check.with("net 9;"), 0), 12345678);
        ThinRow x = Check.with("net 3;row 210;");
        Check.told(x, 0, "net 3:0-1;");
        edge("without: 0, 1, .., where another row was", Check.row(x, 0), 12);
    }

    private static void tokens() {
        good("blanks (32, 10) aside", " \n net \n 2 \n : \n 0 \n - \n 1 \n = \n 3 \n ; \n row \n 10 \n ; \n ", 1);
        for (int octet : new int[] {0, 9, 11, 12, 13, 31, 33, 127, 128, 160, 255}) {
            bad("blanks (32, 10) alone", "net" + (char) octet + "2;", 1, 3);
        }
        good("the longest, words and digits", "net2:0-1;row10;", 1);
        bad("the longest, words", "netrow 2;", 1, 0);
        bad("the longest, digits", "net 11;", 2, 4);
        bad("words (a .. z)", "Net 2;", 1, 0);
        bad("words (a .. z), a blank in it", "ne t 2;", 1, 0);
        bad("words (a .. z), below a", "net`2;", 1, 3);
        bad("words (a .. z), above z", "net{2;", 1, 3);
        bad("words (a .. z), a and z are", "netaz 2;", 1, 0);
        bad("digits, below 0", "net 2/;", 1, 5);
        bad("digits, 0 is", "net 20;", 2, 4);
        bad("digits, 9 is", "net 29;", 2, 4);
        bad("else single bytes", "net 2;;", 1, 6);
        bad("else single bytes, a minus is none of a number's", "net -2;", 1, 4);
    }

    private static void faults() {
        bad("whose first byte is least", "net 0:0-0=0;row 0;", 2, 4);
        bad("whose first byte is least", "net 2:0-0=0;row 0;", 2, 8);
        bad("whose first byte is least", "net 2:0-1=0;row 0;", 2, 10);
        bad("whose first byte is least", "net 2:0-1=1;row 0", 5, 16);
        bad("the end's", "", 1, 0);
        bad("the end's", "net", 1, 3);
        bad("the end's", "net 2", 1, 5);
        bad("the end's", "net 2:", 1, 6);
        bad("the end's", "net 2:0", 1, 7);
        bad("the end's", "net 2:0-", 1, 8);
        bad("the end's", "net 2:0-1", 1, 9);
        bad("the end's", "net 2:0-1=", 1, 10);
        bad("the end's", "net 2:0-1=1", 1, 11);
        bad("the end's", "net 2:0-1=1,", 1, 12);
        good("the end's, where it may be", "net 2:0-1=1;", 1);
        bad("the end's", "net 2;row", 1, 9);
        bad("the end's", "net 2;row 01", 1, 12);
        good("the end's, where it may be", "net 2;row 01;", 0);
        bad("the end's, behind blanks", "net 2 \n", 1, 7);
        bad("the end's, of blanks alone", " \n ", 1, 3);
        String full = lines(30);
        int a = full.length() + 1;
        bad("a 31st LINE, at its A", full + ",7-8;", 4, a);
        bad("of one byte the least number: 1", full + ",;", 1, a);
        bad("of one byte the least number: 2", full + ",9-8;", 2, a);
        bad("a 31st LINE ahead of one told again", full + ",0-1;", 4, a);
        bad("a 31st LINE ahead of B that is A", full + ",8-8;", 4, a);
        bad("a 31st LINE ahead of what follows", full + ",8", 4, a);
        bad("a TOKEN that is none", "net 2:0-1;#", 1, 10);
        bad("a TOKEN that can't stand there, the first", ";", 1, 0);
        bad("a TOKEN that can't stand there, the first", ":0-1;", 1, 0);
        bad("a TOKEN that can't stand there, the first", "row 01;", 1, 0);
        bad("a TOKEN that can't stand there", "net 2:0-1;net", 1, 10);
        bad("a TOKEN that can't stand there, a second row", "net 2;row 01;row 01;", 1, 13);
        bad("a number out of its bounds, far", "net 99999999999999999999;", 2, 4);
        bad("a number out of its bounds, wrapped around", "net 4294967297;", 2, 4);
        bad("a number out of its bounds, B wrapped around", "net 3:0-18446744073709551617;", 2, 8);
    }

    private static void shapes() {
        int[][] due = {
            {1, 0, 0, 0, 1, 0, 0}, {2, 0, 0, 0, 2, -1, 0}, {2, 1, 9, 1, 1, 1, 1},
            {9, 0, 0, 0, 9, -1, 0}, {9, 8, 8, 8, 1, 2, 1}, {8, 28, 252, 7, 1, 1, 7},
            {9, 8, 8, 2, 1, 8, 1}, {9, 9, 9, 2, 1, 4, 2}, {6, 6, 6, 2, 2, -1, 2}, {4, 3, 3, 2, 2, -1, 2}};
        String[] texts = {"net 1;", "net 2;", "net 2:0-1=9;", "net 9;", STAR9, FULL8,
            "net 9:0-1,1-2,2-3,3-4,4-5,5-6,6-7,7-8;", "net 9:0-1,1-2,2-3,3-4,4-5,5-6,6-7,7-8,8-0;",
            "net 6:0-1,1-2,2-0,3-4,4-5,5-3;", "net 4:0-1,1-2,2-0;"};
        String[] words = {"POINTS", "LINES", "weight of all LINES", "the most LINES at a POINT", "PARTS",
            "the DIAMETER (NONE, if there are PARTS)", "CORE"};
        for (int i = 0; i < texts.length; i++) {
            ThinRow x = Check.with(texts[i]);
            for (int what = 0; what < 7; what++) {
                edge(words[what] + " of " + texts[i], x.look(0, what), due[i][what]);
            }
        }
        edge("weight of all LINES, the most",
                Check.with(lines(30).replaceAll("(,|$)", "=9$1") + ";").look(0, 2), 270);
    }

    // ---- term II

    private static void measures() {
        int[] full = {144, 7, 7, 756, 28, 7, 0};
        int[] bounds = {32, 7, 4, -2, -2, 7, -2};
        for (int m = 0; m < 7; m++) {
            for (String text : new String[] {"net 1;", "net 2;", "net 9;"}) {
                ThinRow x = Check.with(text);
                edge("(0 without), measure " + m + " of " + text, x.value(0, m), 0);
                edge("(0 without), least " + m + " of " + text, x.least(0, m), 0);
                edge("(0 without), polished " + m + " of " + text, x.polished(0, m), 0);
                edge("(0 without), bound " + m + " of " + text, x.bound(0, m, 0), bounds[m] < 0 ? -2 : 0);
            }
            ThinRow x = Check.with(FULL8);
            edge("each two have a LINE, measure " + m, x.value(0, m), full[m]);
            edge("each two have a LINE, least " + m, x.least(0, m), full[m]);
            edge("each two have a LINE, ways " + m, x.ways(0, m), ROWS8);
            edge("each two have a LINE, firsts " + m, x.firsts(0, m), 255);
            edge("each two have a LINE, polish " + m, x.polish(0, m), 0);
            edge("each two have a LINE, bound " + m, x.bound(0, m, 0), bounds[m]);
        }
        ThinRow x = Check.with(FULL8);
        edge("each two have a LINE, by balls", x.bound(0, 2, 1), 4);
        edge("each two have a LINE, MINOR", x.minor(0), 7);
        edge("each two have a LINE, new LINES", x.filled(0, -1), 0);
        edge("each two have a LINE, half", x.halve(0), 15);
    }

    /** A star of nine: all depends on the place p of its middle, each of 8! rows. */
    private static void starOfNine() {
        ThinRow x = Check.with(STAR9);
        int[] least = {4, 1, 4, 20, 8, 1, 0};
        int[] ways = {1, 2, 1, 1, 2, 2, 2};
        int[] firsts = {510, 511, 510, 510, 510, 510, 510};
        int[] best = {123405678, 12345678, 123405678, 123405678, 123456708, 123456708, 123456708};
        for (int m = 0; m < 7; m++) {
            edge("LEAST over all ROWS, " + m, x.least(0, m), least[m]);
            edge("How many ROWS have the LEAST, " + m, x.ways(0, m), ways[m] * ROWS8);
            edge("first in some ROW with the LEAST, " + m, x.firsts(0, m), firsts[m]);
            int digits = 0;
            for (int i = 0; i < 9; i++) {
                digits = digits * 10 + x.best(0, m, i);
            }
            edge("the first ROW with the LEAST, " + m, digits, best[m]);
            ThinRow y = Check.with(STAR9);
            edge("how many places have another POINT, " + m, y.takes(0, m),
                    m == 1 ? 0 : m >= 4 ? 8 : 5);
            edge("The ROW becomes the first, " + m, Check.row(y, 0), best[m]);
        }
        for (int v = 0; v <= 9; v++) {
            int apart = v < 4 ? 0 : Math.min(9, 2 * v - 7);
            edge("at most v of CUT, " + v, x.within(0, 0, v), apart * ROWS8);
            edge("at most v of BAND, " + v, x.within(0, 2, v), apart * ROWS8);
            edge("at most v of GATE, " + v, x.within(0, 1, v), v == 0 ? 0 : Math.min(9, v + 1) * ROWS8);
            edge("at most v of WIDTH, " + v, x.within(0, 5, v), v == 0 ? 0 : Math.min(9, v + 1) * ROWS8);
        }
        edge("at most v, the greatest number", x.within(0, 0, Integer.MAX_VALUE), 9 * ROWS8);
        edge("at most v, the greatest number, BAND", x.within(0, 2, Integer.MAX_VALUE), 9 * ROWS8);
        edge("v (0 and more)", x.within(0, 2, -1), -2);
        edge("half of the most weight, upwards", x.bound(0, 0, 0), 4);
        edge("half of the most LINES, upwards", x.bound(0, 2, 0), 4);
        edge("by balls", x.bound(0, 2, 1), 4);
        edge("MINOR of a star", x.minor(0), 1);
    }

    private static void starAmong() {
        ThinRow x = Check.with(STAR9);
        int[] byCut = {4, 4, -2, 20, 14, 4, 6};
        int[] byGate = {7, 1, -2, 29, 29, 7, 21};
        int[] byWidth = {7, 7, -2, 29, 8, 1, 0};
        for (int m = 0; m < 7; m++) {
            edge("those ROWS alone that have the LEAST of CUT, " + m, x.among(0, 0, m), byCut[m]);
            edge("those ROWS alone that have the LEAST of GATE, " + m, x.among(0, 1, m), byGate[m]);
            edge("those ROWS alone that have the LEAST of WIDTH, " + m, x.among(0, 5, m), byWidth[m]);
            for (int first : new int[] {-1, 2, 3, 4, 6, 7}) {
                edge("a first one (CUT, GATE, WIDTH), not " + first, x.among(0, first, m), -2);
            }
        }
        edge("a second MEASURE, none", x.among(0, 0, 7), -2);
        edge("a second MEASURE, none below", x.among(0, 0, -1), -2);
    }

    /** Its row has the middle first: by one change it comes to where it is best. */
    private static void starChanged() {
        int[] gains = {-4, 3, -4, -16, -22, -4, -22};
        int[] times = {1, 0, 1, 1, 1, 1, 1};
        int[] polished = {412305678, 12345678, 412305678, 412305678, 712345608, 712345608, 712345608};
        int[] greedy = {123405678, 12345678, 12345678, 123405678, 123456708, 123456708, 123456708};
        int[] least = {4, 1, 4, 20, 8, 1, 0};
        for (int m = 0; m < 7; m++) {
            ThinRow x = Check.with(STAR9);
            edge("How much more (below 0: less), " + m, x.gain(0, m, 0, 4), gains[m]);
            edge("How much more, the places the other way, " + m, x.gain(0, m, 4, 0), gains[m]);
            edge("How much more, one place, " + m, x.gain(0, m, 8, 8), 0);
            edge("How much more, like ones, " + m, x.gain(0, m, 1, 8), 0);
            edge("there are none such, " + m, x.gain(0, m, 9, 0), -1000);
            edge("there are none such, below, " + m, x.gain(0, m, 0, -1), -1000);
            edge("What POLISHING would come to, " + m, x.polished(0, m), least[m]);
            edge("how many times POINTS were changed over, " + m, x.polish(0, m), times[m]);
            edge("POLISHED, " + m, Check.row(x, 0), polished[m]);
            x = Check.with(STAR9);
            edge("A GREEDY ROW (not BAND), " + m, x.greedy(0, m), m == 2 ? -2 : least[m]);
            edge("A GREEDY ROW, its POINTS, " + m, Check.row(x, 0), greedy[m]);
        }
        ThinRow x = Check.with(STAR9);
        edge("there are none such, no MEASURE", x.gain(0, 7, 0, 1), -1000);
        edge("there are none such, no NET", x.gain(1, 0, 0, 1), -1000);
        edge("there are none such, no SLOT", x.gain(3, 0, 0, 1), -1000);
    }

    /**
     * A ring of nine. CUT 2: those ahead are always one arc, 9 by 2 to the 7 rows; GATE 2: or two single
     * ones with one between them, that comes next, 9 by 2 by 2 to the 5 more; PROFILE the other way round.
     * BAND 2: both others of the first come next, all else follows. As points go it stays a ring.
     */
    private static void ringOfNine() {
        ThinRow x = Check.with("net 9:0-1,1-2,2-3,3-4,4-5,5-6,6-7,7-8,8-0;");
        int all = 9 * ROWS8;
        int[] value = {2, 2, 8, 16, 15, 2, 6};
        int[] least = {2, 2, 2, 16, 15, 2, 6};
        int[] ways = {1152, 1728, 18, 1152, 1728, all, all};
        for (int m = 0; m < 7; m++) {
            edge("What the ROW has of a ring, " + m, x.value(0, m), value[m]);
            edge("LEAST of a ring, " + m, x.least(0, m), least[m]);
            edge("How many ROWS of a ring, " + m, x.ways(0, m), ways[m]);
            edge("first in some ROW of a ring, " + m, x.firsts(0, m), 511);
            int digits = 0;
            for (int i = 0; i < 9; i++) {
                digits = digits * 10 + x.best(0, m, i);
            }
            edge("the first ROW of a ring, " + m, digits, m == 2 ? 18273645 : 12345678);
            if (m != 3 && m != 4 && m != 6) {
                edge("at most v, below the LEAST, " + m, x.within(0, m, least[m] - 1), 0);
                edge("at most v, the LEAST, " + m, x.within(0, m, least[m]), ways[m]);
                edge("at most v, all, " + m, x.within(0, m, 18), all);
            }
        }
        edge("at most v, one less than all", x.within(0, 2, 7), all - 18 * 5040);
    }

    /** What was found over all rows is of the net as it is now, in each slot, by each way it can change. */
    private static void afterChanges() {
        String path = "net 4:0-1,1-2,2-3;";
        String[] ways = {"adds", "cuts", "merges", "told", "drops and told", "undo"};
        for (int way = 0; way < ways.length; way++) {
            for (int m = 0; m < 7; m++) {
                ThinRow x = Check.with(path);
                Check.told(x, 1, STAR9);
                foundIs(ways[way] + ", ahead of it", x, 0, m, path);
                foundIs(ways[way] + ", the other", x, 1, m, STAR9);
                foundIs(ways[way] + ", behind it", x, 0, m, changed(x, way));
                foundIs(ways[way] + ", the other stays", x, 1, m, STAR9);
            }
        }
    }

    /** Changes slot 0, which has a path of four; what a new object would be told for it. */
    private static String changed(ThinRow x, int way) {
        switch (way) {
            case 0:
                x.adds(0, 0, 2, 9);
                return "net 4:0-1,1-2,2-3,0-2=9;";
            case 1:
                x.cuts(0, 1, 2);
                return "net 4:0-1,2-3;";
            case 2:
                x.adds(0, 0, 3, 2);
                x.merges(0, 0, 1);
                return "net 3:0-1,1-2,0-2=2;";
            case 3:
                Check.told(x, 0, "net 4:0-1,0-2,0-3;");
                return "net 4:0-1,0-2,0-3;";
            case 4:
                x.drops(0);
                Check.told(x, 0, "net 5:0-4=3,1-4;");
                return "net 5:0-4=3,1-4;";
            default:
                x.adds(0, 1, 3, 5);
                x.least(0, 0);
                x.least(0, 2);
                x.undo();
                return "net 4:0-1,1-2,2-3;";
        }
    }

    private static void foundIs(String words, ThinRow x, int slot, int m, String text) {
        ThinRow fresh = Check.with(text);
        edge("LEAST, " + words + ", " + m, x.least(slot, m), fresh.least(0, m));
        edge("ways, " + words + ", " + m, x.ways(slot, m), fresh.ways(0, m));
        edge("firsts, " + words + ", " + m, x.firsts(slot, m), fresh.firsts(0, m));
        edge("within, " + words + ", " + m, x.within(slot, m, 2), fresh.within(0, m, 2));
        edge("among, " + words + ", " + m, x.among(slot, m, 3), fresh.among(0, m, 3));
        for (int i = 0; i < fresh.look(0, 0); i++) {
            edge("best, " + words + ", " + m, x.best(slot, m, i), fresh.best(0, m, i));
        }
    }

    private static void neighbours() {
        ThinRow x = Check.with("net 5:0-1,1-2,2-3,3-4;row 12304;");
        int[] width = {2, 2, 2, 1, 0};
        int[] fill = {1, 1, 1, 0, 0};
        int[] taken = {7, 13, 25, 17, 16};
        for (int i = 0; i < 5; i++) {
            edge("through POINTS AHEAD alone (none, too), place " + i, x.price(0, 5, i), width[i]);
            edge("not NEIGHBOURS of one another then, place " + i, x.price(0, 6, i), fill[i]);
            edge("it and its NEIGHBOURS, place " + i, x.bag(0, 1, i), taken[i]);
        }
        int[] values = {2, 2, 3, 2 + 2 + 2 + 1, 2 + 2 + 2 + 1, 2, 1 + 1 + 1};
        for (int m = 0; m < 7; m++) {
            edge("the greatest PRICE; all PRICES together, " + m, x.value(0, m), values[m]);
        }
        int[] lines = {2, 3, 4, -1};
        for (int k = 0; k < 4; k++) {
            edge("the k-th (from 0), " + k, x.filled(0, k), lines[k]);
        }
        edge("how many (k NONE)", x.filled(0, -1), 3);
        edge("k below NONE", x.filled(0, -2), -2);
        edge("not so many, of none", Check.with("net 9;").filled(0, 0), -1);
        edge("how many, of none", Check.with("net 9;").filled(0, -1), 0);
        x = Check.with("net 9:0-1,0-2,0-3,0-4,0-5,0-6,0-7,0-8;row 012345678;");
        edge("how many, the most of one POINT", x.filled(0, -1), 28);
        edge("the k-th, the first", x.filled(0, 0), 12);
        edge("the k-th, the last", x.filled(0, 27), 78);
        edge("the k-th, none more", x.filled(0, 28), -1);
        edge("the k-th, far", x.filled(0, Integer.MAX_VALUE), -1);
    }

    private static void boundsAndMinor() {
        edge("upwards, of an odd weight", Check.with("net 3:0-1=4,1-2=5;").bound(0, 0, 0), 5);
        edge("upwards, of an even weight", Check.with("net 3:0-1=5,1-2=5;").bound(0, 0, 0), 5);
        edge("upwards, of weight 1", Check.with("net 2:0-1;").bound(0, 0, 0), 1);
        edge("upwards, of odd LINES", Check.with("net 4:0-1=9,0-2=9,0-3=9;").bound(0, 2, 0), 2);
        edge("upwards, of even LINES", Check.with("net 3:0-1=9,0-2=9;").bound(0, 2, 0), 1);
        edge("by 2 r, upwards", Check.with("net 4:0-1,0-2,0-3;").bound(0, 2, 1), 2);
        edge("by 2 r, one other", Check.with("net 2:0-1;").bound(0, 2, 1), 1);
        edge("for each POINT and r 1 .. N less 1, no r", Check.with("net 1;").bound(0, 2, 1), 0);
        edge("how many other POINTS, none", Check.with("net 9;").bound(0, 2, 1), 0);
        edge("for each POINT, the first alone", Check.with("net 5:0-1,0-2,0-3,0-4;").bound(0, 2, 1), 2);
        edge("for each POINT, the last alone", Check.with("net 4:3-0,3-1,3-2;").bound(0, 2, 1), 2);
        edge("far() r or less, not more", Check.with("net 9:0-1,1-2,2-3,3-4,4-5,5-6,6-7,7-8;").bound(0, 2, 1), 1);
        edge("far() r or less, a ring", Check.with("net 4:0-1,1-2,2-3,3-0;").bound(0, 2, 1), 1);
        edge("BAND alone", Check.with(PATH).bound(0, 0, 1), -2);
        edge("without one it goes alone", Check.with("net 1;").minor(0), 0);
        edge("without one it goes alone, all", Check.with("net 9;").minor(0), 0);
        edge("without one it goes alone, some", Check.with("net 9:2-5,5-7,7-2;").minor(0), 2);
        edge("MINOR of one LINE", Check.with("net 2:0-1=9;").minor(0), 1);
        edge("MINOR of a ring", Check.with("net 9:0-1,1-2,2-3,3-4,4-5,5-6,6-7,7-8,8-0;").minor(0), 2);
    }

    private static void polishedAndGreedy() {
        ThinRow x = Check.with("net 4:0-1,2-3;row 0213;");
        edge("of like ones the first, times", x.polish(0, 2), 1);
        edge("of like ones the first", Check.row(x, 0), 3210);
        x = Check.with("net 3:0-1;row 012;");
        edge("if less than it is", x.polish(0, 0), 0);
        edge("if less than it is, the row", Check.row(x, 0), 12);
        edge("till there is none", Check.with("net 9;row 876543210;").polish(0, 3), 0);
        edge("till there is none, one place", Check.with("net 1;").polish(0, 3), 0);
        edge("till there is none, two places", Check.with("net 2:0-1;row 10;").polish(0, 3), 0);
        x = Check.with("net 9:0-1,1-2,2-3,3-4,4-5,5-6,6-7,7-8;row 048372615;");
        int was = x.value(0, 3);
        int times = x.polish(0, 3);
        edge("so on, more than once", times > 1 ? 1 : 0, 1);
        edge("so on, less each time", x.value(0, 3) <= was - times ? 1 : 0, 1);
        edge("so on, till there is none", x.polish(0, 3), 0);
        for (int m = 0; m < 7; m++) {
            x = Check.with("net 3;row 210;");
            edge("GREEDY without LINES, " + m, x.greedy(0, m), m == 2 ? -2 : 0);
            edge("of like ones the least number, " + m, Check.row(x, 0), m == 2 ? 210 : 12);
            edge("GREEDY, one POINT, " + m, Check.with("net 1;").greedy(0, m), m == 2 ? -2 : 0);
        }
        x = Check.with("net 3:0-1=2,1-2;");
        edge("behind it, ahead of the next place", x.greedy(0, 0), 2);
        edge("behind it, ahead of the next place, the row", Check.row(x, 0), 210);
        x = Check.with("net 4:0-1,0-2,0-3;");
        edge("of WIDTH, FILL at it", x.greedy(0, 5), 1);
        edge("of WIDTH, FILL at it, the row", Check.row(x, 0), 1203);
        x = Check.with("net 4:0-1,0-2,0-3;");
        edge("of GATE behind it", x.greedy(0, 1), 1);
        edge("of GATE behind it, the row", Check.row(x, 0), 123);
    }

    // ---- term III

    /** Each kind of act by its number, on slot 0; what it answers. */
    private static int act(ThinRow x, int kind) {
        switch (kind) {
            case 0:
                return Check.told(x, 0, "net 2;");
            case 1:
                return x.swaps(0, 0, 4);
            case 2:
                return x.moves(0, 4, 0);
            case 3:
                return x.reverse(0);
            case 4:
                return x.takes(0, 2);
            case 5:
                return x.polish(0, 3);
            case 6:
                return x.greedy(0, 6);
            case 7:
                return x.layers(0, 2);
            case 8:
                return x.adds(0, 0, 4, 9);
            case 9:
                return x.adds(0, 0, 1, 9);
            case 10:
                return x.cuts(0, 0, 1);
            case 11:
                return x.merges(0, 1, 2);
            default:
                return x.drops(0);
        }
    }

    private static void acts() {
        String text = "net 5:0-1=2,0-2,1-3=4,2-3,3-4;row 31042;";
        String other = "net 3:0-2=7;row 120;";
        int[] answers = {0, 3, 2, 2, 5, 1, 0, 5, 0, 2, 2, -6, 1};
        String[] after = {"net 2;row 01;", "net 5:0-1=2,0-2,1-3=4,2-3,3-4;row 21043;",
            "net 5:0-1=2,0-2,1-3=4,2-3,3-4;row 23104;", "net 5:0-1=2,0-2,1-3=4,2-3,3-4;row 24013;", "", "", "",
            "net 5:0-1=2,0-2,1-3=4,2-3,3-4;row 20314;", "net 5:0-1=2,0-2,0-4=9,1-3=4,2-3,3-4;row 31042;",
            "net 5:0-1=9,0-2,1-3=4,2-3,3-4;row 31042;", "net 5:0-2,1-3=4,2-3,3-4;row 31042;",
            "net 5:0-1=2,0-2,1-3=4,2-3,3-4;row 31042;", ""};
        for (int kind = 0; kind <= 12; kind++) {
            ThinRow x = Check.with(text);
            Check.told(x, 2, other);
            int answer = act(x, kind);
            if (kind < 4 || kind > 6) {
                edge("ACTS, kind " + kind, answer, answers[kind]);
            }
            if (!after[kind].isEmpty()) {
                is("ACTS, kind " + kind, x, 0, after[kind]);
            }
            edge("acts that can be undone, kind " + kind, x.count(1), answer == -6 ? 2 : 3);
            is("the other SLOT stays, kind " + kind, x, 2, other);
            if (answer != -6) {
                edge("The latest act is undone, kind " + kind, x.undo(), 2);
            }
            is("SLOTS as they were, kind " + kind, x, 0, text);
            is("SLOTS as they were, the other, kind " + kind, x, 2, other);
            edge("SLOTS as they were, as bits, kind " + kind, x.count(0), 5);
        }
    }

    /** Calls that leave the slot as it is are no acts. */
    private static void noActs() {
        ThinRow x = Check.with("net 3:0-1=4,1-2;");
        edge("by which a SLOT becomes otherwise: told", Check.told(x, 0, "net 3:2-1,1-0=4;row 012;"), 2);
        edge("swaps of one place", x.swaps(0, 1, 1), 1);
        edge("moves to where it is", x.moves(0, 2, 2), 2);
        edge("takes the row that it has", x.takes(0, 3), 0);
        edge("polish what is least", x.polish(0, 3), 0);
        edge("greedy as it is", x.greedy(0, 5), 1);
        edge("layers as they are", x.layers(0, 0), 0);
        edge("adds() of another weight, the same", x.adds(0, 1, 0, 4), 4);
        edge("cuts none", x.cuts(0, 0, 2), -6);
        edge("merges none", x.merges(0, 0, 2), -6);
        edge("drops() of one that had a NET, none", x.drops(1), 0);
        edge("a fault", Check.told(x, 0, "net 3:"), -4);
        edge("polished", x.polished(0, 3), 5);
        edge("tell", x.tell(0, 0), 24);
        edge("acts are told() alone", x.count(1), 1);
        edge("undone", x.undo(), 0);
        edge("nothing was there", x.count(0), 0);
        x = Check.with("net 1;");
        edge("reverse of one POINT", x.reverse(0), 0);
        edge("no act", x.count(1), 1);
        x = Check.with("net 3:0-1;");
        Check.told(x, 0, "net 3:0-2;");
        edge("told, another line alone", x.count(1), 2);
        Check.told(x, 0, "net 3:0-2=2;");
        edge("told, another weight alone", x.count(1), 3);
        Check.told(x, 0, "net 3:0-2=2;row 021;");
        edge("told, another row alone", x.count(1), 4);
        Check.told(x, 0, "net 4:0-2=2;row 0213;");
        edge("told, one more POINT", x.count(1), 5);
        Check.told(x, 1, "net 4:0-2=2;row 0213;");
        edge("told, where nothing was", x.count(1), 6);
    }

    private static void latestTen() {
        ThinRow x = new ThinRow();
        edge("undo of a new object", x.undo(), -1);
        Check.told(x, 0, "net 9;");
        edge("how many can be, none more", x.undo(), 0);
        edge("NONE: none", x.undo(), -1);
        Check.told(x, 0, "net 9;");
        for (int i = 1; i <= 9; i++) {
            x.adds(0, 0, 1, i);
            edge("The latest 10, " + i, x.count(1), Math.min(10, i + 1));
        }
        x.adds(0, 0, 1, 1);
        edge("The latest 10, the eleventh", x.count(1), 10);
        for (int i = 9; i >= 1; i--) {
            edge("one by one", x.undo(), i);
            edge("SLOTS as they were", x.line(0, 0, 1), i);
        }
        edge("one by one, the last", x.undo(), 0);
        edge("SLOTS as they were, at last", x.line(0, 0, 1), 0);
        edge("the oldest can't be undone", x.undo(), -1);
        edge("the oldest stays", x.look(0, 0), 9);
        for (int i = 1; i <= 25; i++) {
            x.adds(0, 0, 2, 1 + i % 9);
            if (i % 5 == 0) {
                x.undo();
                x.undo();
            }
        }
        edge("the ring wrapped around", x.count(1), 8);
        edge("the ring wrapped around, undone", x.undo(), 7);
        edge("the ring wrapped around, as it was", x.line(0, 0, 2), 1 + 22 % 9);
    }

    private static void refusedFirst() {
        ThinRow x = Check.with("net 3;");
        edge("-2 ahead of NONE: far", x.far(0, 0, 3), -2);
        edge("-2 ahead of NONE: longest", x.longest(1), -2);
        edge("-2 ahead of NONE: look", x.look(1, 5), -2);
        edge("-2 ahead of NONE: filled", x.filled(1, 0), -2);
        edge("-2 ahead of -6: cuts, a POINT", x.cuts(0, 0, 3), -2);
        edge("-2 ahead of -6: cuts, one", x.cuts(0, 0, 0), -2);
        edge("-2 ahead of -6: cuts, no NET", x.cuts(1, 0, 1), -2);
        edge("-2 ahead of -6: merges, a POINT", x.merges(0, 3, 0), -2);
        edge("-2 ahead of -6: merges, one", x.merges(0, 2, 2), -2);
        edge("-2 ahead of -6: merges, no SLOT", x.merges(3, 0, 1), -2);
        x = Check.with(lines(30) + ";");
        edge("-5", x.adds(0, 7, 8, 1), -5);
        edge("-2 ahead of -5: weight 0", x.adds(0, 7, 8, 0), -2);
        edge("-2 ahead of -5: weight 10", x.adds(0, 7, 8, 10), -2);
        edge("-2 ahead of -5: one", x.adds(0, 8, 8, 1), -2);
        edge("-2 ahead of -5: a POINT", x.adds(0, 7, 9, 1), -2);
        edge("-2 ahead of -5: a SLOT", x.adds(3, 7, 8, 1), -2);
        Check.feed(x, "net 0");
        edge("-2 ahead of -4", x.told(3), -2);
        edge("-2 ahead of -4, the TAPE stays", x.count(2), 5);
        edge("-4", x.told(2), -4);
    }

    // ---- promises

    private static void newObject() {
        ThinRow x = new ThinRow();
        for (int slot = 0; slot < 3; slot++) {
            edge("SLOTS have nothing", x.look(slot, 0), -2);
            edge("SLOTS have nothing to drop", x.drops(slot), 0);
            edge("SLOTS have nothing to tell", x.tell(slot, 0), -2);
        }
        for (int what = 0; what < 4; what++) {
            edge("a new object has none of " + what, x.count(what), 0);
        }
        edge("NONE", ThinRow.NONE, -1);
    }

    private static void tape() {
        ThinRow x = new ThinRow();
        String text = "net 9;row 876543210;";
        edge("Twenty bytes, four of each number, the highest first", Check.feed(x, text), 20);
        edge("Twenty bytes are read", x.told(0), 0);
        edge("Twenty bytes in their order", Check.row(x, 0), 876543210);
        edge("bytes above 127", x.feed(-1, -1, -1, -1, -1), 20);
        edge("bytes above 127 are read", x.told(0), -4);
        edge("bytes above 127 are no TOKEN", x.fault(1), 0);
        Check.feed(x, text);
        for (int size = 40; size <= 400; size += 20) {
            edge("how many it has", x.feed(0x20202020, 0x20202020, 0x20202020, 0x20202020, 0x0a0a0a0a), size);
        }
        edge("NONE if more than 400", x.feed(-1, -1, -1, -1, -1), -1);
        edge("and none come", x.count(2), 400);
        edge("if it has not so many", x.end(401), -1);
        edge("all that it has", x.end(400), 400);
        edge("its first n bytes alone", x.end(381), 381);
        edge("NONE if 401", x.feed(-1, -1, -1, -1, -1), -1);
        edge("and none come, of 381", x.count(2), 381);
        edge("n is below 0", x.end(-1), -1);
        edge("n is below 0, far", x.end(Integer.MIN_VALUE), -1);
        edge("and nothing happens", x.count(2), 381);
        edge("what refused feeds had is not read", x.told(0), 0);
        edge("empty then", x.count(2), 0);
        edge("the empty TAPE has 0", x.end(0), 0);
        edge("the empty TAPE has not 1", x.end(1), -1);
        Check.feed(x, "net 2;xxxxx");
        x.end(6);
        edge("come behind the TAPE", Check.feed(x, "row 10;"), 26);
        edge("its first n bytes alone, what follows comes behind", x.told(0), 0);
        edge("as told", Check.row(x, 0), 10);
        for (int i = 0; i < 19; i++) {
            x.feed(0x20202020, 0x20202020, 0x20202020, 0x20202020, 0x20202020);
        }
        edge("400 and no more", Check.feed(x, "net 9;row 012345678;"), 400);
        edge("a full TAPE is read", x.told(1), 0);
        edge("a full TAPE has been read", Check.row(x, 1), 12345678);
    }

    private static void toldAndFault() {
        ThinRow x = new ThinRow();
        edge("0 without, ahead of any", x.fault(0), 0);
        edge("NONE ahead of any (what 1)", x.fault(1), -1);
        Check.feed(x, PATH);
        edge("no such SLOT", x.told(3), -2);
        edge("no such SLOT, below", x.told(-1), -2);
        edge("the TAPE stays", x.count(2), PATH.length());
        edge("ahead of any that was not -2", x.fault(1), -1);
        edge("the last SLOT", x.told(2), 3);
        edge("no FAULT", x.fault(0), 0);
        edge("NONE without", x.fault(1), -1);
        x.tell(2, 0);
        Check.feed(x, "net 4:0-1,1-2,2-3=0;");
        edge("a FAULT", x.told(2), -4);
        edge("the TAPE is empty", x.count(2), 0);
        edge("all else stays, SLOTS", x.count(0), 4);
        edge("all else stays, acts", x.count(1), 1);
        edge("all else stays, OUT", x.count(3), 27);
        edge("all else stays, LINES", x.look(2, 1), 3);
        edge("a FAULT's number", x.fault(0), 2);
        edge("a FAULT's place", x.fault(1), 18);
        edge("refused", x.told(7), -2);
        edge("Of the latest told() that was not -2", x.fault(0), 2);
        edge("Of the latest told() that was not -2, its place", x.fault(1), 18);
        x.undo();
        x.drops(2);
        edge("of the latest told(), whatever came since", x.fault(0), 2);
        edge("NONE for another what", x.fault(2), -1);
        edge("NONE for another what, below", x.fault(-1), -1);
        Check.told(x, 0, "net 1;");
        edge("no FAULT any more", x.fault(0), 0);
        edge("no FAULT any more, no place", x.fault(1), -1);
        Check.told(x, 0, "net 9:0-1,0-2,7-8;");
        Check.told(x, 0, "net 9:3-4;");
        for (int p = 0; p < 9; p++) {
            edge("nothing is left of what was told ahead", x.near(0, p), p == 3 ? 16 : p == 4 ? 8 : 0);
        }
    }

    private static void counts() {
        ThinRow x = new ThinRow();
        for (int slot = 2; slot >= 0; slot--) {
            Check.told(x, slot, "net 1;");
            edge("SLOTS with a NET, as bits, of one POINT", x.count(0), 8 - (1 << slot));
        }
        x.drops(1);
        edge("SLOTS with a NET, as bits, one dropped", x.count(0), 5);
        edge("bytes of OUT, none told", x.count(3), 0);
        x.tell(0, 0);
        edge("bytes of OUT", x.count(3), 12);
        x.tell(0, 1);
        edge("bytes of OUT, no PRICES", x.count(3), 0);
        edge("NONE for others", x.count(4), -1);
        edge("NONE for others, below", x.count(-1), -1);
    }

    private static void rows() {
        ThinRow x = Check.with("net 9:0-8=9;row 876543210;");
        edge("near, the first", x.near(0, 0), 256);
        edge("near, the last", x.near(0, 8), 1);
        edge("near, none", x.near(0, 4), 0);
        edge("near, no such POINT", x.near(0, 9), -2);
        edge("of one with itself, too", x.line(0, 8, 8), 0);
        edge("there is none", x.line(0, 0, 7), 0);
        edge("the last with the first", x.line(0, 8, 0), 9);
        edge("from a POINT to itself", x.far(0, 8, 8), 0);
        edge("there is no way", x.far(0, 0, 7), -1);
        edge("one LINE", x.far(0, 8, 0), 1);
        edge("place 0", x.row(0, 0), 8);
        edge("POINTS less 1", x.row(0, 8), 0);
        edge("POINTS", x.row(0, 9), -2);
        edge("below 0", x.row(0, -1), -2);
        edge("The place of the first", x.place(0, 8), 0);
        edge("The place of the last", x.place(0, 0), 8);
        edge("The place of none", x.place(0, 9), -2);
        edge("the farthest apart, all", x.longest(0), 8);
        edge("how many LINES, a path of nine",
                Check.with("net 9:0-1,1-2,2-3,3-4,4-5,5-6,6-7,7-8;").far(0, 8, 0), 8);
        edge("there are no LINES", Check.with("net 9;").longest(0), -1);
        edge("there are no LINES, one POINT", Check.with("net 1;").longest(0), -1);
        edge("of like ones the first, by the lesser", Check.with("net 4:2-3,0-1;").longest(0), 1);
        edge("of like ones the first, by the other", Check.with("net 4:1-3,1-2;row 2130;").longest(0), 12);
        edge("the lesser POINT and the other one", Check.with("net 9:8-7;").longest(0), 78);
    }

    private static void steps() {
        ThinRow x = Check.with("net 3:0-1=9,1-2=9;");
        for (int m : new int[] {0, 1, 3, 4}) {
            edge("i 1 .. POINTS less 1, i 0, " + m, x.price(0, m, 0), -2);
            edge("i 1, " + m, x.price(0, m, 1), m == 0 || m == 3 ? 9 : 1);
            edge("i POINTS less 1, " + m, x.price(0, m, 2), m == 0 || m == 3 ? 9 : 1);
            edge("i POINTS, " + m, x.price(0, m, 3), -2);
            edge("The first step at which it is greatest, " + m, x.worst(0, m), 1);
            edge("a single POINT, price " + m, Check.with("net 1;").price(0, m, 1), -2);
            edge("a single POINT, price at 0, " + m, Check.with("net 1;").price(0, m, 0), -2);
            edge("a single POINT, worst " + m, Check.with("net 1;").worst(0, m), -2);
            edge("two POINTS, worst " + m, Check.with("net 2;").worst(0, m), 1);
        }
        for (int m : new int[] {5, 6}) {
            edge("0, too, " + m, x.price(0, m, 0), m == 5 ? 1 : 0);
            edge("at the last place, " + m, x.price(0, m, 2), 0);
            edge("at POINTS, " + m, x.price(0, m, 3), -2);
            edge("below 0, " + m, x.price(0, m, -1), -2);
            edge("The first step, 0, " + m, x.worst(0, m), 0);
            edge("but for WIDTH, FILL, price " + m, Check.with("net 1;").price(0, m, 0), 0);
            edge("but for WIDTH, FILL, price at 1, " + m, Check.with("net 1;").price(0, m, 1), -2);
            edge("but for WIDTH, FILL, worst " + m, Check.with("net 1;").worst(0, m), 0);
        }
        edge("BAND, too, price", x.price(0, 2, 1), -2);
        edge("BAND, too, worst", x.worst(0, 2), -2);
        x = Check.with("net 9:0-8,1-8,2-8,3-8,4-8,5-8,6-8,7-8;");
        edge("the greatest at the last step", x.worst(0, 0), 8);
        edge("the greatest at the last step, its PRICE", x.price(0, 0, 8), 8);
        x = Check.with("net 4:0-2,1-2,2-3,1-3;row 0123;");
        edge("the greatest in the middle", x.worst(0, 0), 2);
    }

    private static void single() {
        ThinRow x = Check.with("net 1;");
        for (int m = 0; m < 7; m++) {
            edge("one POINT, ways " + m, x.ways(0, m), 1);
            edge("one POINT, firsts " + m, x.firsts(0, m), 1);
            edge("one POINT, best " + m, x.best(0, m, 0), 0);
            edge("one POINT, best behind " + m, x.best(0, m, 1), -2);
            edge("one POINT, takes " + m, x.takes(0, m), 0);
            edge("one POINT, polish " + m, x.polish(0, m), 0);
            edge("one POINT, gain " + m, x.gain(0, m, 0, 0), 0);
            edge("one POINT, gain, no place " + m, x.gain(0, m, 0, 1), -1000);
            boolean limited = m == 0 || m == 1 || m == 2 || m == 5;
            edge("one POINT, within " + m, x.within(0, m, 0), limited ? 1 : -2);
            edge("one POINT, among " + m, x.among(0, m, m), limited && m != 2 ? 0 : -2);
        }
        edge("one POINT, all sets", x.split(0, 1, 0), 0);
        edge("one POINT, no set", x.split(0, 2, 0), -2);
        edge("one POINT, half", x.halve(0), 0);
        edge("one POINT, its bag", x.bag(0, 0, 0), 1);
        edge("one POINT, its bag as taken out", x.bag(0, 1, 0), 1);
        edge("one POINT, swaps", x.swaps(0, 0, 0), 0);
        edge("one POINT, moves", x.moves(0, 0, 0), 0);
        edge("one POINT, layers", x.layers(0, 0), 0);
        edge("one POINT, adds", x.adds(0, 0, 0, 1), -2);
        edge("one POINT, cuts", x.cuts(0, 0, 0), -2);
        edge("one POINT, merges", x.merges(0, 0, 0), -2);
        edge("one POINT, merges with none", x.merges(0, 0, 1), -2);
        edge("one POINT, no act", x.count(1), 1);
        is("one POINT, told", x, 0, "net 1;row 0;");
    }

    private static void setsAndBags() {
        ThinRow x = Check.with(STAR9);
        int[][] due = {{0, 0, 0}, {8, 1, 8}, {1, 1, 1}, {0, 0, 0}, {1, 1, 1}, {8, 8, 1}};
        int[] sets = {0, 1, 2, 511, 255, 510};
        for (int i = 0; i < sets.length; i++) {
            for (int what = 0; what < 3; what++) {
                edge("Of a set of POINTS, " + sets[i] + ", " + what, x.split(0, sets[i], what), due[i][what]);
            }
        }
        edge("0 .. 2 to the POINTS less 1", x.split(0, 512, 0), -2);
        edge("0 .. 2 to the POINTS less 1, below", x.split(0, -1, 0), -2);
        edge("half of POINTS (downwards), nine", x.halve(0), 2 + 4 + 8 + 16);
        edge("the least number", Check.with("net 9;").halve(0), 15);
        edge("half of POINTS, two", Check.with("net 2:0-1;").halve(0), 1);
        edge("half of POINTS, three", Check.with("net 3:0-1,1-2;").halve(0), 1);
        edge("by which the weight is least, the greatest number", Check.with("net 4:0-1=9,2-3=9,0-2,1-3;")
                .halve(0), 3);
        edge("by which the weight is least, the last set", Check.with("net 3:0-1=5,1-2=4,0-2=3;").halve(0), 4);
        int[] going = {1, 3, 5, 9, 17, 33, 65, 129, 257};
        int[] taken = {511, 510, 508, 504, 496, 480, 448, 384, 256};
        for (int i = 0; i < 9; i++) {
            edge("BAG of a place, as the ROW goes, " + i, x.bag(0, 0, i), going[i]);
            edge("BAG of a place, as POINTS are taken out, " + i, x.bag(0, 1, i), taken[i]);
        }
        edge("BAG of no place", x.bag(0, 0, 9), -2);
        x = Check.with("net 3:0-2;row 012;");
        edge("those AHEAD that have a LINE with one behind it", x.bag(0, 0, 1), 3);
        edge("those AHEAD that have a LINE with it", x.bag(0, 0, 2), 5);
        edge("those AHEAD that have none", Check.with("net 3:0-1;").bag(0, 0, 2), 4);
    }

    private static void rowActs() {
        ThinRow x = Check.with("net 9;row 876543210;");
        edge("changed over, first and last: the POINT that was at the first", x.swaps(0, 8, 0), 0);
        edge("changed over, first and last", Check.row(x, 0), 76543218);
        edge("from the first place to the last", x.moves(0, 0, 8), 0);
        edge("those between move on by one", Check.row(x, 0), 765432180);
        edge("from the last place to the first", x.moves(0, 8, 0), 0);
        edge("those between move on by one, back", Check.row(x, 0), 76543218);
        edge("the POINT that is first then", x.reverse(0), 8);
        edge("The ROW goes the other way round", Check.row(x, 0), 812345670);
        edge("how many places have another POINT, two of nine", x.layers(0, 0), 2);
        edge("by how far they are from a POINT, no LINES", Check.row(x, 0), 12345678);
        edge("those to which there is no way last", x.layers(0, 8), 9);
        edge("those to which there is no way last, the row", Check.row(x, 0), 801234567);
        x = Check.with("net 9:8-7,7-6,6-5,5-4,4-3,3-2,2-1,1-0;");
        edge("by how far, up to 8", x.layers(0, 8), 8);
        edge("by how far, up to 8, the row", Check.row(x, 0), 876543210);
        x = Check.with("net 9:4-8,8-0,0-6;");
        edge("by how far, then by numbers, then no way", x.layers(0, 4), 9);
        edge("by how far, then by numbers, then no way, the row", Check.row(x, 0), 480612357);
        x = Check.with("net 2:0-1;row 10;");
        edge("two POINTS, the other way round", x.reverse(0), 0);
        edge("two POINTS, changed over", x.swaps(0, 0, 1), 0);
        edge("two POINTS, moved", x.moves(0, 1, 0), 0);
        edge("two POINTS, the row", Check.row(x, 0), 1);
        edge("acts", x.count(1), 4);
    }

    private static void linesComeAndGo() {
        ThinRow x = Check.with(lines(29) + ";");
        edge("the 30th LINE comes", x.adds(0, 8, 7, 9), 0);
        edge("the 30th LINE is there", x.look(0, 1), 30);
        int was = x.count(1);
        edge("-5: there are 30 LINES", x.adds(0, 6, 7, 9), -5);
        edge("-5 is no act", x.count(1), was);
        edge("-5, none comes", x.line(0, 6, 7), 0);
        edge("one of 30 has another weight from now on", x.adds(0, 7, 8, 1), 9);
        edge("what it had", x.adds(0, 7, 8, 1), 1);
        edge("A LINE goes: its weight", x.cuts(0, 8, 7), 1);
        edge("a LINE went", x.look(0, 1), 29);
        edge("-6: there is none", x.cuts(0, 8, 7), -6);
        edge("there is room", x.adds(0, 6, 7, 1), 0);
        edge("weight 1", x.adds(0, 0, 1, 1), 1);
        edge("weight 9", x.adds(0, 0, 1, 9), 1);
        edge("weight 0", x.adds(0, 0, 1, 0), -2);
        edge("weight 10", x.adds(0, 0, 1, 10), -2);
        edge("a and b one, too", x.adds(0, 1, 1, 1), -2);
        edge("no such POINT", x.adds(0, 1, 9, 1), -2);
        edge("no such POINT, below", x.adds(0, -1, 1, 1), -2);
        x = Check.with("net 2:0-1=9;");
        edge("the only LINE goes", x.cuts(0, 1, 0), 9);
        edge("PARTS then", x.look(0, 4), 2);
        edge("no LINES then", x.look(0, 1), 0);
    }

    private static void merged() {
        ThinRow x = Check.with("net 2:0-1;");
        edge("how many POINTS there are, one", x.merges(0, 1, 0), 1);
        is("of two one", x, 0, "net 1;row 0;");
        x = Check.with("net 5:0-4,0-1=9,1-4=9,0-2=4,2-4=5,3-4=9;row 41203;");
        edge("the lesser number", x.merges(0, 4, 0), 4);
        is("weights together, 9 at most; the first of the ROW goes", x, 0, "net 4:0-1=9,0-2=9,0-3=9;row 1203;");
        x = Check.with("net 5:0-1=4,0-2=4,1-2,1-3=2,2-3=3,3-4;row 01342;");
        edge("greater numbers one less", x.merges(0, 1, 2), 4);
        is("greater numbers one less; the last of the ROW goes", x, 0, "net 4:0-1=8,1-2=5,2-3;row 0123;");
        x = Check.with("net 9:7-8=9,0-8=3;row 087654321;");
        edge("the greatest two", x.merges(0, 7, 8), 8);
        is("the greatest two, its LINES", x, 0, "net 8:0-7=3;row 07654321;");
        edge("-6: there is no such LINE", x.merges(0, 0, 1), -6);
        edge("the same row after undone", x.undo(), 1);
        is("undone", x, 0, "net 9:0-8=3,7-8=9;row 087654321;");
        x = Check.with(lines(30) + ";");
        edge("of 30 LINES", x.merges(0, 0, 8), 8);
        edge("of 30 LINES, those that are left", x.look(0, 1), 25);
    }

    private static void dropped() {
        ThinRow x = Check.with(PATH);
        edge("1 if it had a NET", x.drops(0), 1);
        edge("else 0", x.drops(0), 0);
        edge("no such SLOT", x.drops(3), -2);
        edge("no such SLOT, below", x.drops(-1), -2);
        edge("nothing any more", x.value(0, 0), -2);
        Check.told(x, 0, "net 4;");
        edge("told again, nothing of old", x.look(0, 1), 0);
        edge("told again, no LINES near", x.near(0, 1), 0);
        edge("undone: nothing", x.undo(), 2);
        edge("nothing", x.count(0), 0);
        edge("undone: the net", x.undo(), 1);
        is("SLOTS as they were", x, 0, "net 4:0-1,1-2,2-3;row 0123;");
    }

    private static void out() {
        ThinRow x = Check.with(PATH);
        edge("empty ahead of any", x.octet(0), -1);
        x.tell(0, 0);
        edge("Byte i, the first", x.octet(0), 'n');
        edge("Byte i, the last", x.octet(26), ';');
        edge("there is none such", x.octet(27), -1);
        edge("there is none such, below", x.octet(-1), -1);
        edge("refused", x.tell(1, 1), -2);
        edge("refused, no what", x.tell(0, 2), -2);
        edge("by a call that was not refused", x.count(3), 27);
        x.drops(0);
        Check.told(x, 0, "net 3:0-1=9,1-2=9;");
        x.undo();
        x.undo();
        edge("whatever came since", x.octet(26), ';');
        edge("PRICES of CUT", x.tell(0, 1), 5);
        edge("a blank between", x.octet(1), ' ');
        edge("none behind", x.octet(5), -1);
        is("a blank behind net and row alone", x, 0, "net 4:0-1,1-2,2-3;row 0123;");
        String nine = lines(30).replaceAll("(,|$)", "=9$1") + ";row 876543210;";
        x = Check.with(nine);
        edge("the longest TEXT", x.tell(0, 0), 200);
        is("weights that are not 1", x, 0, nine);
        int[] cuts = {9, 10, 99, 100};
        String[] texts = {"net 2:0-1=9;", "net 3:0-1=9,0-2;row 012;",
            "net 9:0-2=9,0-3=9,0-4=9,0-5=9,0-6=9,0-7=9,0-8=9,1-2=9,1-3=9,1-4=9,1-5=9;",
            "net 9:0-2=9,0-3=9,0-4=9,0-5=9,0-6=9,0-7=9,0-8=9,1-2=9,1-3=9,1-4=9,1-5=9,1-6;"};
        for (int i = 0; i < cuts.length; i++) {
            x = Check.with(texts[i]);
            x.tell(0, 1);
            String told = " " + Check.out(x) + " ";
            edge("PRICES, " + cuts[i] + " in" + told, told.contains(" " + cuts[i] + " ") ? 1 : 0, 1);
        }
        x = Check.with("net 9:0-5=9,0-6=9,0-7=9,0-8=9,1-5=9,1-6=9,1-7=9,1-8=9,2-5=9,2-6=9,2-7=9,2-8=9,"
                + "3-5=9,3-6=9,3-7=9,3-8=9,4-5=9,4-6=9,4-7=9,4-8=9,0-1=9,0-2=9,0-3=9,1-2=9,1-3=9,2-3=9;");
        edge("PRICES of three digits", x.tell(0, 1), 28);
        CHECK.same("PRICES of three digits", Check.out(x), "63 108 135 144 180 135 90 45");
        x = Check.with("net 1;");
        edge("no PRICES", x.tell(0, 1), 0);
        edge("OUT is empty", x.octet(0), -1);
    }

    public static void main(String[] args) {
        calls();
        nets();
        digits();
        tokens();
        faults();
        shapes();
        measures();
        starOfNine();
        starAmong();
        starChanged();
        ringOfNine();
        afterChanges();
        neighbours();
        boundsAndMinor();
        polishedAndGreedy();
        acts();
        noActs();
        latestTen();
        refusedFirst();
        newObject();
        tape();
        toldAndFault();
        counts();
        rows();
        steps();
        single();
        setsAndBags();
        rowActs();
        linesComeAndGo();
        merged();
        dropped();
        out();
        CHECK.close();
    }
}
