/** Each promise by itself: ordinary inputs, the edges that the document names, wrong inputs. */
public final class PromiseTest {
    private static final int MIN = Integer.MIN_VALUE;
    private static final int MAX = Integer.MAX_VALUE;
    private static final String PATH = "net 4:0-1,1-2,2-3;";
    private static final String STAR = "net 5:2-0,2-1=3,2-3,2-4;";
    private static final String RING = "net 5:0-1,1-2,2-3,3-4,4-0;";
    private static final String APART = "net 5:3-4=7;row 43210;";
    private static final Check CHECK = new Check("PromiseTest");

    private PromiseTest() {
    }

    private static void due(int promise, String what, int got, int want) {
        CHECK.due("promise " + promise + ", " + what, got, want);
    }

    private static void newObject() {
        ThinRow x = new ThinRow();
        due(1, "no nets", x.count(0), 0);
        due(1, "no acts", x.count(1), 0);
        due(1, "no tape", x.count(2), 0);
        due(1, "no out", x.count(3), 0);
        for (int slot = 0; slot < 3; slot++) {
            due(1, "slot " + slot, x.look(slot, 0), -2);
        }
        due(1, "NONE", ThinRow.NONE, -1);
    }

    private static void feedAndEnd() {
        ThinRow x = new ThinRow();
        due(2, "the first", x.feed(0x6e657420, 0x313b2020, 0, 0, 0), 20);
        due(2, "highest first", x.end(6), 6);
        due(2, "behind", x.feed(0x20202020, 0x20202020, 0x20202020, 0x20202020, 0x20202020), 26);
        due(2, "it reads", x.told(0), 0);
        for (int i = 1; i <= 20; i++) {
            due(2, "feed " + i, x.feed(-1, -1, -1, -1, -1), 20 * i);
        }
        due(2, "more than 400", x.feed(0, 0, 0, 0, 0), -1);
        due(2, "none came", x.count(2), 400);
        due(3, "too many", x.end(401), -1);
        due(3, "below 0", x.end(-1), -1);
        due(3, "the least number", x.end(MIN), -1);
        due(3, "nothing happened", x.count(2), 400);
        due(3, "all", x.end(400), 400);
        due(3, "some", x.end(381), 381);
        due(2, "would have 401", x.feed(0, 0, 0, 0, 0), -1);
        due(3, "less", x.end(380), 380);
        due(2, "has 400", x.feed(0, 0, 0, 0, 0), 400);
        due(3, "none", x.end(0), 0);
        due(3, "empty", x.count(2), 0);
        due(3, "more than it has", x.end(1), -1);
    }

    private static void told() {
        ThinRow x = new ThinRow();
        due(4, "lines", Check.told(x, 1, "net 4 : 0 - 1 = 9 ,\n3-2; row 3210 ;"), 2);
        due(4, "weight", x.line(1, 1, 0), 9);
        due(4, "weight 1 without", x.line(1, 2, 3), 1);
        due(4, "row", Check.row(x, 1), 3210);
        due(4, "tape is empty", x.count(2), 0);
        due(4, "an act", x.count(1), 1);
        due(4, "the same again", Check.told(x, 1, "net4:1-0=9,2-3=1;row 3210;\n"), 2);
        due(4, "is no act", x.count(1), 1);
        due(4, "another row", Check.told(x, 1, "net 4:0-1=9,2-3;"), 2);
        due(4, "is an act", x.count(1), 2);
        due(4, "row without", Check.row(x, 1), 123);
        Check.feed(x, "net 3");
        due(4, "no such slot", x.told(3), -2);
        due(4, "no such slot below", x.told(-1), -2);
        due(4, "the tape stays", x.count(2), 5);
        due(4, "a fault", x.told(1), -4);
        due(4, "empty after a fault", x.count(2), 0);
        due(4, "all else stays", x.look(1, 0), 4);
        due(4, "no act by a fault", x.count(1), 2);
        due(4, "leading noughts", Check.told(x, 2, "net 02:00-001=0009;"), 1);
        due(4, "thirty lines", Check.told(x, 2, manyLines(30) + ";"), 30);
    }

    /** A net of nine points with so many lines, not closed. */
    private static String manyLines(int count) {
        StringBuilder text = new StringBuilder("net 9");
        int lines = 0;
        for (int a = 0; a < 9; a++) {
            for (int b = a + 1; b < 9 && lines < count; b++) {
                text.append(lines == 0 ? ":" : ",").append(a).append('-').append(b);
                lines++;
            }
        }
        return text.toString();
    }

    private static void isFault(String text, int number, int place) {
        ThinRow x = new ThinRow();
        String what = "\"" + text.replace("\n", "\\n") + "\"";
        due(4, what, Check.told(x, 0, text), -4);
        due(5, "number of " + what, x.fault(0), number);
        due(5, "place of " + what, x.fault(1), place);
    }

    private static void faults() {
        isFault("", 1, 0);
        isFault("  \n ", 1, 4);
        isFault("Net 3;", 1, 0);
        isFault("nets 3;", 1, 0);
        isFault("neta 3;", 1, 0);
        isFault("netz 3;", 1, 0);
        isFault("net{3;", 1, 3);
        isFault("net`3;", 1, 3);
        isFault("net 3/;", 1, 5);
        isFault("net 2:0-1=19;", 2, 10);
        isFault("net", 1, 3);
        isFault("net ;", 1, 4);
        isFault("net 3", 1, 5);
        isFault("net 3  ", 1, 7);
        isFault("net 0;", 2, 4);
        isFault("net 10;", 2, 4);
        isFault("net 4294967297;", 2, 4);
        isFault("net 99999999999999999999999999;", 2, 4);
        isFault("net 3:;", 1, 6);
        isFault("net 3:0-1,;", 1, 10);
        isFault("net 3:0-3;", 2, 8);
        isFault("net 3:3-0;", 2, 6);
        isFault("net 3:1-1;", 2, 8);
        isFault("net 3:1=2;", 1, 7);
        isFault("net 3:1--2;", 1, 8);
        isFault("net 3:1-2=0;", 2, 10);
        isFault("net 3:1-2=10;", 2, 10);
        isFault("net 3:1-2=;", 1, 10);
        isFault("net 3:1-2=a;", 1, 10);
        isFault("net 3:1-2,2-1;", 3, 12);
        isFault("net 3:1-2,1-2;", 3, 12);
        isFault("net 3:1-2,2-2;", 2, 12);
        isFault("net 3:1-2=1=1;", 1, 11);
        isFault("net 3:1-2 0-1;", 1, 10);
        isFault("net 3;;", 1, 6);
        isFault("net 3;net 3;", 1, 6);
        isFault("net 3;rows 012;", 1, 6);
        isFault("net 3;row;", 1, 9);
        isFault("net 3;row", 1, 9);
        isFault("net 3;row 01;", 5, 10);
        isFault("net 3;row 0123;", 5, 10);
        isFault("net 3;row 011;", 5, 10);
        isFault("net 3;row 013;", 5, 10);
        isFault("net 3;row 112;", 5, 10);
        isFault("net 3;row 210210;", 5, 10);
        isFault("net 3;row 0 12;", 5, 10);
        isFault("net 3;row 012", 1, 13);
        isFault("net 3;row 012;x", 1, 14);
        isFault("net 3\t;", 1, 5);
        isFault("net 3" + (char) 233 + ";", 1, 5);
        isFault("net 3" + (char) 0 + ";", 1, 5);
        String full = manyLines(30);
        int end = full.length();
        isFault(full + ",8-7;", 4, end + 1);
        isFault(full + ",0-1;", 4, end + 1);
        isFault(full + ",9-7;", 2, end + 1);
        isFault(full + ",-7;", 1, end + 1);
        isFault(full + ",8 8;", 4, end + 1);
    }

    private static void faultOfLatest() {
        ThinRow x = new ThinRow();
        due(5, "ahead of any", x.fault(0), 0);
        due(5, "place ahead of any", x.fault(1), -1);
        due(5, "another what", x.fault(2), -1);
        due(5, "a what below", x.fault(-1), -1);
        Check.told(x, 0, "net 3;row 02;");
        due(5, "a fault", x.fault(0), 5);
        due(5, "its place", x.fault(1), 10);
        due(5, "refused", Check.told(x, 9, PATH), -2);
        due(5, "not by -2", x.fault(0), 5);
        x.told(0);
        due(5, "0 without", x.fault(0), 0);
        due(5, "NONE without", x.fault(1), -1);
    }

    private static void counts() {
        ThinRow x = new ThinRow();
        Check.told(x, 0, PATH);
        Check.told(x, 2, STAR);
        due(6, "slots", x.count(0), 5);
        due(6, "acts", x.count(1), 2);
        Check.feed(x, "abc");
        due(6, "tape", x.count(2), 3);
        x.tell(0, 1);
        due(6, "out", x.count(3), 5);
        due(6, "others", x.count(4), -1);
        due(6, "below", x.count(-1), -1);
    }

    private static void looks(String text, int... all) {
        ThinRow x = Check.with(text);
        for (int what = 0; what < all.length; what++) {
            due(7, "what " + what + " of " + text, x.look(0, what), all[what]);
        }
    }

    private static void look() {
        looks(PATH, 4, 3, 3, 2, 1, 3, 1, -2);
        looks(STAR, 5, 4, 6, 4, 1, 2, 1, -2);
        looks(RING, 5, 5, 5, 2, 1, 2, 2, -2);
        looks(APART, 5, 1, 7, 1, 4, -1, 1, -2);
        looks("net 1;", 1, 0, 0, 0, 1, 0, 0, -2);
        looks("net 2;", 2, 0, 0, 0, 2, -1, 0, -2);
        looks("net 9;", 9, 0, 0, 0, 9, -1, 0, -2);
        looks("net 6:0-1,0-2,0-3,1-2,1-3,2-3,3-4,4-5=9;", 6, 8, 16, 4, 1, 3, 3);
        ThinRow x = Check.with(PATH);
        due(7, "no such what", x.look(0, -1), -2);
        due(7, "no net", x.look(1, 0), -2);
        due(7, "no slot", x.look(3, 0), -2);
        due(7, "no slot below", x.look(-1, 0), -2);
    }

    private static void nearLineFar() {
        ThinRow x = Check.with(STAR);
        due(8, "all others", x.near(0, 2), 27);
        due(8, "one", x.near(0, 4), 4);
        due(8, "none", Check.with("net 2;").near(0, 1), 0);
        due(8, "no such point", x.near(0, 5), -2);
        due(8, "a point below", x.near(0, -1), -2);
        due(8, "no net", x.near(1, 0), -2);
        due(9, "a weight", x.line(0, 1, 2), 3);
        due(9, "the other way", x.line(0, 2, 1), 3);
        due(9, "there is none", x.line(0, 0, 1), 0);
        due(9, "with itself", x.line(0, 2, 2), 0);
        due(9, "no such point", x.line(0, 2, 5), -2);
        due(9, "no such first", x.line(0, MAX, 2), -2);
        due(9, "no slot", x.line(MIN, 0, 1), -2);
        due(10, "through one", x.far(0, 0, 4), 2);
        due(10, "itself", x.far(0, 3, 3), 0);
        due(10, "no such point", x.far(0, 0, 5), -2);
        due(10, "a point below", x.far(0, -1, 0), -2);
        due(10, "no net", x.far(2, 0, 0), -2);
        x = Check.with(APART);
        due(10, "no way", x.far(0, 0, 4), -1);
        due(10, "one line", x.far(0, 4, 3), 1);
        due(10, "-2 ahead of NONE", x.far(0, 0, 5), -2);
        due(10, "along nine", Check.with("net 9:8-1,1-7,7-2,2-6,6-3,3-5,5-4,4-0;").far(0, 8, 0), 8);
    }

    private static void rowAndPlace() {
        ThinRow x = Check.with("net 3;row 201;");
        due(11, "first", x.row(0, 0), 2);
        due(11, "last", x.row(0, 2), 1);
        due(11, "too great", x.row(0, 3), -2);
        due(11, "below", x.row(0, -1), -2);
        due(11, "no net", x.row(1, 0), -2);
        due(12, "of 0", x.place(0, 0), 1);
        due(12, "of 2", x.place(0, 2), 0);
        due(12, "no point", x.place(0, 3), -2);
        due(12, "below", x.place(0, -1), -2);
        due(12, "no slot", x.place(4, 0), -2);
    }

    private static void values(String text, int... all) {
        ThinRow x = Check.with(text);
        for (int measure = 0; measure < 7; measure++) {
            due(13, "measure " + measure + " of " + text, x.value(0, measure), all[measure]);
        }
        due(13, "no measure", x.value(0, 7), -2);
        due(13, "a measure below", x.value(0, -1), -2);
        due(13, "no net", x.value(1, 0), -2);
    }

    private static void value() {
        values(PATH, 1, 1, 1, 3, 3, 1, 0);
        values("net 4:0-1,1-2,2-3;row 1032;", 2, 2, 3, 5, 4, 2, 1);
        values("net 4:0-1=9,1-2=2,2-3=3;row 0213;", 14, 2, 2, 9 * 2 + 2 + 3 * 2, 4, 2, 1);
        values(STAR, 4, 2, 2, 8, 5, 2, 1);
        values("net 5:2-0,2-1=3,2-3,2-4;row 20134;", 6, 1, 4, 1 + 6 + 3 + 4, 10, 4, 6);
        values("net 9;", 0, 0, 0, 0, 0, 0, 0);
        values("net 1;", 0, 0, 0, 0, 0, 0, 0);
    }

    private static void prices(ThinRow x, int measure, int... all) {
        for (int i = 0; i < all.length; i++) {
            due(14, "measure " + measure + " at " + i, x.price(0, measure, i), all[i]);
        }
        due(14, "behind all", x.price(0, measure, all.length), -2);
        due(14, "below", x.price(0, measure, -1), -2);
    }

    private static void priceAndWorst() {
        ThinRow x = Check.with("net 5:0-1=2,0-2,1-3=4,2-3,3-4;row 31042;");
        prices(x, 0, -2, 6, 4, 3, 2);
        prices(x, 1, -2, 1, 2, 2, 2);
        prices(x, 2, -2, -2, -2, -2, -2);
        prices(x, 3, -2, 6, 4, 3, 2);
        prices(x, 4, -2, 3, 3, 2, 1);
        prices(x, 5, 3, 3, 2, 1, 0);
        prices(x, 6, 3, 1, 0, 0, 0);
        prices(x, 7, -2, -2, -2, -2, -2);
        due(14, "no net", x.price(1, 0, 1), -2);
        due(15, "cut", x.worst(0, 0), 1);
        due(15, "gate", x.worst(0, 1), 2);
        due(15, "band", x.worst(0, 2), -2);
        due(15, "length", x.worst(0, 3), 1);
        due(15, "profile", x.worst(0, 4), 1);
        due(15, "width", x.worst(0, 5), 0);
        due(15, "fill", x.worst(0, 6), 0);
        due(15, "no measure", x.worst(0, 7), -2);
        due(15, "no net", x.worst(1, 5), -2);
        x = Check.with("net 1;");
        due(15, "one point, cut", x.worst(0, 0), -2);
        due(15, "one point, profile", x.worst(0, 4), -2);
        due(15, "one point, width", x.worst(0, 5), 0);
        due(15, "one point, fill", x.worst(0, 6), 0);
        due(14, "one point, width", x.price(0, 5, 0), 0);
        due(14, "one point, cut", x.price(0, 0, 0), -2);
        x = Check.with(APART);
        due(15, "the first of like ones", x.worst(0, 0), 1);
        due(15, "no lines", Check.with("net 3;").worst(0, 0), 1);
    }

    private static void longest() {
        due(16, "of like ones the first", Check.with(RING + "row 01234;").longest(0), 4);
        due(16, "by the lesser point", Check.with("net 4:2-3,3-1,0-1;row 0123;").longest(0), 13);
        due(16, "of the row", Check.with("net 4:2-3,3-1,0-1;row 2013;").longest(0), 23);
        due(16, "like ones", Check.with("net 4:2-3,1-3,0-2;row 0213;").longest(0), 23);
        due(16, "no lines", Check.with("net 4;").longest(0), -1);
        due(16, "no net", Check.with(PATH).longest(1), -2);
        due(16, "no slot", Check.with(PATH).longest(3), -2);
    }

    private static void leastOnes(String text, int[] least, int[] ways, int[] firsts, int[] best) {
        ThinRow x = Check.with(text);
        for (int measure = 0; measure < 7; measure++) {
            String of = "measure " + measure + " of " + text;
            due(17, of, x.least(0, measure), least[measure]);
            due(19, of, x.ways(0, measure), ways[measure]);
            due(21, of, x.firsts(0, measure), firsts[measure]);
            int digits = 0;
            for (int i = 0; i < x.look(0, 0); i++) {
                digits = 10 * digits + x.best(0, measure, i);
            }
            due(18, of, digits, best[measure]);
        }
        due(17, "no act", x.count(1), 1);
        due(17, "no measure", x.least(0, 7), -2);
        due(17, "no measure below", x.least(0, -1), -2);
        due(17, "no net", x.least(1, 0), -2);
        due(18, "no measure", x.best(0, 7, 0), -2);
        due(18, "no place", x.best(0, 2, x.look(0, 0)), -2);
        due(18, "no place below", x.best(0, 0, -1), -2);
        due(18, "no net", x.best(2, 0, 0), -2);
        due(19, "no measure", x.ways(0, 7), -2);
        due(19, "no net", x.ways(1, 2), -2);
        due(21, "no measure", x.firsts(0, -7), -2);
        due(21, "no net", x.firsts(1, 2), -2);
    }

    private static void overAllRows() {
        leastOnes("net 3:0-2=5,2-1;",
                new int[] {5, 1, 1, 6, 2, 1, 0}, new int[] {2, 4, 2, 2, 4, 4, 4},
                new int[] {3, 7, 3, 3, 3, 3, 3}, new int[] {21, 21, 21, 21, 12, 12, 12});
        leastOnes("net 1;", new int[7], new int[] {1, 1, 1, 1, 1, 1, 1},
                new int[] {1, 1, 1, 1, 1, 1, 1}, new int[7]);
        int all = 362880;
        int[] first = new int[7];
        java.util.Arrays.fill(first, 12345678);
        leastOnes("net 9;", new int[7], new int[] {all, all, all, all, all, all, all},
                new int[] {511, 511, 511, 511, 511, 511, 511}, first);
        ThinRow x = Check.with(STAR);
        due(17, "cut of a star", x.least(0, 0), 3);
        due(17, "band of a star", x.least(0, 2), 2);
        due(19, "band of a star", x.ways(0, 2), 24);
        due(21, "band of a star", x.firsts(0, 2), 27);
        x.adds(0, 0, 1, 1);
        due(17, "not stale", x.least(0, 5), 2);
        x.undo();
        due(17, "not stale after undo", x.least(0, 5), 1);
    }

    private static void within() {
        ThinRow x = Check.with(RING);
        due(20, "cut below the least", x.within(0, 0, 1), 0);
        due(20, "cut", x.within(0, 0, 2), x.ways(0, 0));
        due(20, "gate, all", x.within(0, 1, 9), 120);
        due(20, "band", x.within(0, 2, 2), 10);
        due(20, "band 0", x.within(0, 2, 0), 0);
        due(20, "band, all", x.within(0, 2, 4), 120);
        due(20, "band, the greatest", x.within(0, 2, MAX), 120);
        due(20, "width", x.within(0, 5, 2), 120);
        due(20, "width, the greatest", x.within(0, 5, MAX), 120);
        due(20, "length", x.within(0, 3, 9), -2);
        due(20, "profile", x.within(0, 4, 9), -2);
        due(20, "fill", x.within(0, 6, 9), -2);
        due(20, "below 0", x.within(0, 2, -1), -2);
        due(20, "no measure", x.within(0, 7, 1), -2);
        due(20, "no net", x.within(1, 0, 1), -2);
        due(20, "no lines", Check.with("net 4;").within(0, 2, 0), 24);
    }

    private static void boundAndMinor() {
        ThinRow x = Check.with(STAR);
        due(22, "cut", x.bound(0, 0, 0), 3);
        due(22, "gate", x.bound(0, 1, 0), 1);
        due(22, "band", x.bound(0, 2, 0), 2);
        due(22, "band by balls", x.bound(0, 2, 1), 2);
        due(22, "width", x.bound(0, 5, 0), 1);
        for (int measure : new int[] {3, 4, 6, 7, -1}) {
            due(22, "measure " + measure, x.bound(0, measure, 0), -2);
        }
        for (int measure : new int[] {0, 1, 3, 5}) {
            due(22, "by balls of " + measure, x.bound(0, measure, 1), -2);
        }
        due(22, "no what", x.bound(0, 2, 2), -2);
        due(22, "a what below", x.bound(0, 2, -1), -2);
        due(22, "no net", x.bound(1, 2, 0), -2);
        due(22, "upwards", Check.with("net 4:0-1=2,0-2=2,0-3;").bound(0, 0, 0), 3);
        due(22, "lines upwards", Check.with("net 4:0-1=2,0-2=2,0-3;").bound(0, 2, 0), 2);
        due(22, "wider balls", Check.with("net 9:0-1,0-2,0-3,1-4,2-5,3-6,1-7,2-8;").bound(0, 2, 1), 2);
        due(22, "one point", Check.with("net 1;").bound(0, 2, 1), 0);
        due(23, "star", x.minor(0), 1);
        due(23, "it stays", x.look(0, 0), 5);
        due(23, "no act", x.count(1), 1);
        due(23, "ring", Check.with(RING).minor(0), 2);
        due(23, "one point", Check.with("net 1;").minor(0), 0);
        due(23, "no lines", Check.with("net 5;").minor(0), 0);
        due(23, "grid", Check.with("net 9:0-1,1-2,3-4,4-5,6-7,7-8,0-3,3-6,1-4,4-7,2-5,5-8;").minor(0), 3);
        due(23, "grid has a less core", Check.with(
                "net 9:0-1,1-2,3-4,4-5,6-7,7-8,0-3,3-6,1-4,4-7,2-5,5-8;").look(0, 6), 2);
        due(23, "of like ones the least number", Check.with(
                "net 7:0-2,0-3,0-4,0-6,1-2,1-3,1-5,2-5,2-6,3-6,4-5,4-6;").minor(0), 4);
        due(23, "the lesser number stays", Check.with(
                "net 8:0-5,1-3,1-5,1-7,2-4,2-5,2-6,2-7,3-4,3-7,4-6,5-6,6-7;").minor(0), 4);
        due(23, "the lesser number stays, too", Check.with(
                "net 8:0-2,0-4,0-5,0-6,1-2,1-3,1-6,2-4,2-5,3-5,3-7,4-7,5-6;").minor(0), 3);
        due(23, "no net", x.minor(1), -2);
        due(23, "no slot", x.minor(-1), -2);
    }

    private static void among() {
        ThinRow x = Check.with("net 6:1-3=7,1-4=7,2-4=3,2-5=3,3-4=2,3-5=6;");
        for (int first = 0; first < 7; first++) {
            boolean fine = first == 0 || first == 1 || first == 5;
            due(24, "BAND by " + first, x.among(0, first, 2), -2);
            due(24, "itself " + first, x.among(0, first, first), fine ? x.least(0, first) : -2);
        }
        ThinRow star = Check.with("net 5:0-1,0-2,0-3,0-4;");
        due(24, "fill by cut is more than the least", star.among(0, 0, 6), 1);
        due(24, "fill by width", star.among(0, 5, 6), 0);
        due(24, "cut by width", star.among(0, 5, 0), 3);
        due(24, "the least cut", star.least(0, 0), 2);
        due(24, "no second", x.among(0, 0, 7), -2);
        due(24, "no first", x.among(0, -1, 0), -2);
        due(24, "no net", x.among(1, 0, 0), -2);
        due(24, "no slot", x.among(3, 0, 0), -2);
    }

    private static void splitAndHalve() {
        ThinRow x = Check.with(STAR);
        due(25, "weight", x.split(0, 3, 0), 4);
        due(25, "of it", x.split(0, 3, 1), 2);
        due(25, "of others", x.split(0, 3, 2), 1);
        due(25, "weight of the middle", x.split(0, 4, 0), 6);
        due(25, "the middle", x.split(0, 4, 1), 1);
        due(25, "others of the middle", x.split(0, 4, 2), 4);
        for (int what = 0; what < 3; what++) {
            due(25, "no point", x.split(0, 0, what), 0);
            due(25, "all points", x.split(0, 31, what), 0);
            due(25, "too great", x.split(0, 32, what), -2);
            due(25, "below", x.split(0, -1, what), -2);
        }
        due(25, "no what", x.split(0, 1, 3), -2);
        due(25, "no net", x.split(1, 1, 0), -2);
        due(26, "star", x.halve(0), 9);
        due(26, "half downwards", Check.with("net 3:0-1=9,1-2=8;").halve(0), 4);
        due(26, "the least number", Check.with("net 4;").halve(0), 3);
        due(26, "the thinnest", Check.with("net 4:0-3=2,1-2=2,0-1,2-3;").halve(0), 6);
        due(26, "one point", Check.with("net 1;").halve(0), 0);
        due(26, "no net", x.halve(2), -2);
        due(26, "no slot", x.halve(3), -2);
    }

    private static void bagAndFilled() {
        ThinRow x = Check.with("net 5:0-1,1-2,2-3,3-4,4-0;row 02143;");
        int[] going = {1, 1 | 4, 1 | 2 | 4, 1 | 4 | 16, 4 | 8 | 16};
        int[] taken = {1 | 2 | 16, 2 | 4 | 8, 2 | 8 | 16, 8 | 16, 8};
        for (int i = 0; i < 5; i++) {
            due(27, "going, place " + i, x.bag(0, 0, i), going[i]);
            due(27, "taken, place " + i, x.bag(0, 1, i), taken[i]);
        }
        due(27, "no place", x.bag(0, 0, 5), -2);
        due(27, "no place below", x.bag(0, 1, -1), -2);
        due(27, "no what", x.bag(0, 2, 0), -2);
        due(27, "no net", x.bag(1, 0, 0), -2);
        due(28, "how many", x.filled(0, -1), 2);
        due(28, "first", x.filled(0, 0), 14);
        due(28, "second", x.filled(0, 1), 13);
        due(28, "not so many", x.filled(0, 2), -1);
        due(28, "far too many", x.filled(0, MAX), -1);
        due(28, "below NONE", x.filled(0, -2), -2);
        due(28, "the least number", x.filled(0, MIN), -2);
        due(28, "no net", x.filled(1, -1), -2);
        x = Check.with("net 5:2-0,2-1,2-3,2-4;row 20134;");
        int[] lines = {1, 3, 4, 13, 14, 34};
        for (int k = 0; k < 6; k++) {
            due(28, "by the lesser, then the other, " + k, x.filled(0, k), lines[k]);
        }
        due(28, "six", x.filled(0, -1), 6);
    }

    private static void gain() {
        ThinRow x = Check.with("net 4:0-1=9,1-2=2,2-3=3;row 0213;");
        due(29, "less", x.gain(0, 0, 1, 2), -5);
        due(29, "the other way", x.gain(0, 0, 2, 1), -5);
        due(29, "length", x.gain(0, 3, 0, 3), 14 - 26);
        due(29, "more", x.gain(0, 3, 2, 3), 34 - 26);
        due(29, "band", x.gain(0, 2, 1, 2), -1);
        due(29, "band more", x.gain(0, 2, 0, 1), 1);
        due(29, "one place", x.gain(0, 6, 3, 3), 0);
        due(29, "it stays", Check.row(x, 0), 213);
        due(29, "no place", x.gain(0, 0, 0, 4), -1000);
        due(29, "no first place", x.gain(0, 0, -1, 0), -1000);
        due(29, "no measure", x.gain(0, 7, 0, 1), -1000);
        due(29, "no net", x.gain(1, 0, 0, 1), -1000);
        due(29, "no slot", x.gain(-1, 0, 0, 1), -1000);
    }

    private static void rowActs() {
        ThinRow x = Check.with("net 5;row 40213;");
        due(30, "the first", x.swaps(0, 1, 3), 0);
        due(30, "changed over", Check.row(x, 0), 41203);
        due(30, "an act", x.count(1), 2);
        due(30, "one place", x.swaps(0, 2, 2), 2);
        due(30, "is no act", x.count(1), 2);
        due(30, "no place", x.swaps(0, 0, 5), -2);
        due(30, "no place below", x.swaps(0, -1, 0), -2);
        due(30, "no net", x.swaps(1, 0, 0), -2);
        due(31, "onwards", x.moves(0, 0, 3), 4);
        due(31, "those between", Check.row(x, 0), 12043);
        due(31, "back", x.moves(0, 4, 1), 3);
        due(31, "those between back", Check.row(x, 0), 13204);
        due(31, "acts", x.count(1), 4);
        due(31, "where it is", x.moves(0, 2, 2), 2);
        due(31, "is no act", x.count(1), 4);
        due(31, "no place", x.moves(0, 5, 0), -2);
        due(31, "no place to", x.moves(0, 0, -1), -2);
        due(31, "no slot", x.moves(3, 0, 0), -2);
        due(32, "the first then", x.reverse(0), 4);
        due(32, "the other way round", Check.row(x, 0), 40231);
        due(32, "an act", x.count(1), 5);
        due(32, "no net", x.reverse(2), -2);
        x = Check.with("net 1;");
        due(32, "one point", x.reverse(0), 0);
        due(32, "is no act", x.count(1), 1);
        x = Check.with("net 4;row 3120;");
        x.reverse(0);
        due(32, "four", Check.row(x, 0), 213);
    }

    private static void takes() {
        ThinRow x = Check.with("net 4:0-2,2-1,1-3;row 0123;");
        due(33, "band", x.takes(0, 2), 2);
        due(33, "the row", Check.row(x, 0), 213);
        due(33, "an act", x.count(1), 2);
        due(33, "again", x.takes(0, 2), 0);
        due(33, "no act", x.count(1), 2);
        ThinRow star = Check.with(STAR);
        due(33, "fill", star.takes(0, 6), 2);
        due(33, "fill, the row", Check.row(star, 0), 1324);
        due(33, "no measure", x.takes(0, 7), -2);
        due(33, "no measure below", x.takes(0, -1), -2);
        due(33, "no net", x.takes(1, 0), -2);
    }

    private static void polish() {
        ThinRow x = Check.with("net 5:0-1,1-2,2-3,3-4;row 03142;");
        due(35, "what it would be", x.polished(0, 3), 4);
        due(35, "it stays", Check.row(x, 0), 3142);
        due(35, "no act", x.count(1), 1);
        due(34, "times", x.polish(0, 3), 3);
        due(34, "an act", x.count(1), 2);
        due(34, "what it is", x.value(0, 3), 4);
        due(34, "again", x.polish(0, 3), 0);
        due(34, "no act", x.count(1), 2);
        x = Check.with("net 4:0-1,2-3;row 0213;");
        due(34, "of like ones the first", x.polish(0, 2), 1);
        due(34, "of like ones the first row", Check.row(x, 0), 3210);
        due(34, "no measure", x.polish(0, 7), -2);
        due(34, "no net", x.polish(1, 0), -2);
        due(34, "one point", Check.with("net 1;").polish(0, 3), 0);
        due(35, "no measure", x.polished(0, -1), -2);
        due(35, "no net", x.polished(1, 0), -2);
        due(35, "a slot", x.polished(3, 0), -2);
        x = Check.with("net 5:0-1,0-4,1-2,2-3;");
        due(35, "stuck above the least", x.polished(0, 0), 2);
        due(34, "stuck above the least", x.polish(0, 0), 0);
    }

    private static void greedy() {
        ThinRow x = Check.with(STAR);
        due(36, "cut", x.greedy(0, 0), 3);
        due(36, "cut, the row", Check.row(x, 0), 3421);
        due(36, "no measure", x.greedy(0, 7), -2);
        due(36, "BAND", x.greedy(0, 2), -2);
        due(36, "no net", x.greedy(1, 0), -2);
        due(36, "no act", x.count(1), 2);
        String net = "net 5:0-1,0-2,0-3,1-2,3-4;row 43210;";
        int[] rows = {43012, 1234, 0, 43012, 43012, 43012, 12034};
        int[] values = {2, 2, 0, 6, 5, 2, 0};
        for (int measure = 0; measure < 7; measure++) {
            if (measure != 2) {
                x = Check.with(net);
                due(36, "measure " + measure, x.greedy(0, measure), values[measure]);
                due(36, "row of " + measure, Check.row(x, 0), rows[measure]);
            }
        }
    }

    private static void layers() {
        ThinRow x = Check.with("net 7:5-3,5-1,3-0,1-6;");
        due(37, "by far", x.layers(0, 5), 6);
        due(37, "no way last", Check.row(x, 0), 5130624);
        due(37, "an act", x.count(1), 2);
        due(37, "again", x.layers(0, 5), 0);
        due(37, "no act", x.count(1), 2);
        due(37, "alone", x.layers(0, 4), 7);
        due(37, "alone, the row", Check.row(x, 0), 4012356);
        due(37, "no point", x.layers(0, 7), -2);
        due(37, "below", x.layers(0, -1), -2);
        due(37, "no net", x.layers(1, 0), -2);
    }

    private static void addsAndCuts() {
        ThinRow x = Check.with(PATH);
        due(38, "comes", x.adds(0, 3, 0, 9), 0);
        due(38, "weight", x.line(0, 0, 3), 9);
        due(38, "lines", x.look(0, 1), 4);
        due(38, "another", x.adds(0, 0, 3, 2), 9);
        due(38, "acts", x.count(1), 3);
        due(38, "the same", x.adds(0, 0, 3, 2), 2);
        due(38, "is no act", x.count(1), 3);
        due(38, "one", x.adds(0, 2, 2, 1), -2);
        due(38, "weight 0", x.adds(0, 0, 1, 0), -2);
        due(38, "weight 10", x.adds(0, 0, 1, 10), -2);
        due(38, "no point", x.adds(0, 0, 4, 1), -2);
        due(38, "no net", x.adds(1, 0, 1, 1), -2);
        due(39, "its weight", x.cuts(0, 0, 3), 2);
        due(39, "it went", x.near(0, 0), 2);
        due(39, "an act", x.count(1), 4);
        due(39, "there is none", x.cuts(0, 0, 3), -6);
        due(39, "one", x.cuts(0, 1, 1), -2);
        due(39, "no point", x.cuts(0, 0, 4), -2);
        due(39, "no net", x.cuts(1, 0, 1), -2);
        x = Check.with(manyLines(30) + ";");
        due(38, "there are 30", x.adds(0, 7, 8, 1), -5);
        due(38, "-2 ahead of -5", x.adds(0, 7, 8, 10), -2);
        due(38, "-2 ahead of -5, a point", x.adds(0, 7, 9, 1), -2);
        due(38, "one that is there", x.adds(0, 1, 0, 5), 1);
        due(39, "makes room", x.cuts(0, 0, 1), 5);
        due(38, "there is room", x.adds(0, 8, 7, 1), 0);
        due(38, "30 again", x.adds(0, 0, 1, 1), -5);
    }

    private static void merges() {
        ThinRow x = Check.with("net 5:1-3=2,1-4=5,3-4=5,0-3=6,0-1=2,2-3,2-4=7;row 43210;");
        due(40, "no line", x.merges(0, 0, 2), -6);
        due(40, "one", x.merges(0, 1, 1), -2);
        due(40, "no point", x.merges(0, 1, 5), -2);
        due(40, "no net", x.merges(1, 0, 1), -2);
        due(40, "how many", x.merges(0, 3, 1), 4);
        CHECK.same("promise 40", Check.text(x, 0), "net 4:0-1=8,1-2,1-3=9,2-3=7;row 3210;");
        due(40, "lines", x.look(0, 1), 4);
        due(40, "an act", x.count(1), 2);
        x.undo();
        CHECK.same("promise 42", Check.text(x, 0),
                "net 5:0-1=2,0-3=6,1-3=2,1-4=5,2-3,2-4=7,3-4=5;row 43210;");
        x = Check.with("net 2:0-1;row 10;");
        due(40, "to one", x.merges(0, 0, 1), 1);
        due(40, "its row", x.row(0, 0), 0);
        due(40, "none more", x.look(0, 1), 0);
    }

    private static void dropsAndUndo() {
        ThinRow x = Check.with(PATH);
        due(41, "nothing there", x.drops(1), 0);
        due(41, "is no act", x.count(1), 1);
        due(41, "had a net", x.drops(0), 1);
        due(41, "an act", x.count(1), 2);
        due(41, "nothing", x.count(0), 0);
        due(41, "no slot", x.drops(3), -2);
        due(41, "no slot below", x.drops(-1), -2);
        due(42, "how many can be", x.undo(), 1);
        CHECK.same("promise 42", Check.text(x, 0), "net 4:0-1,1-2,2-3;row 0123;");
        due(42, "told undone", x.undo(), 0);
        due(42, "nothing", x.count(0), 0);
        due(42, "none", x.undo(), -1);
        x = Check.with(PATH);
        for (int i = 0; i < 12; i++) {
            x.swaps(0, 0, 1 + i % 3);
            Check.told(x, 1 + i % 2, "net " + (1 + i % 9) + ";");
        }
        due(42, "ten at most", x.count(1), 10);
        for (int i = 0; i < 10; i++) {
            due(42, "the " + i + "th", x.undo(), 9 - i);
            due(42, "size after the " + i + "th", x.look(1 + (i / 2 + 1) % 2, 0), sizeAfter(i));
            due(42, "row after the " + i + "th", Check.row(x, 0), rowAfter(i));
        }
        due(42, "no more", x.undo(), -1);
    }

    /** Acts were: swap i, then net of 1 + i % 9 in slot 1 + i % 2, for i 0 .. 11. */
    private static int rowAfter(int undone) {
        int swapsLeft = 12 - (undone + 1) / 2;
        int[] row = {0, 1, 2, 3};
        for (int i = 0; i < swapsLeft; i++) {
            int point = row[0];
            row[0] = row[1 + i % 3];
            row[1 + i % 3] = point;
        }
        return row[0] * 1000 + row[1] * 100 + row[2] * 10 + row[3];
    }

    private static int sizeAfter(int undone) {
        int slot = 1 + (undone / 2 + 1) % 2;
        int netsLeft = 12 - undone / 2 - 1;
        int size = -2;
        for (int i = 0; i < netsLeft; i++) {
            size = 1 + i % 2 == slot ? 1 + i % 9 : size;
        }
        return size;
    }

    private static void tellAndOctet() {
        ThinRow x = Check.with("net 4 : 3-1 = 2, 2-0 = 1, 1-0 = 9; row 3012;");
        due(44, "ahead of any", x.octet(0), -1);
        due(43, "how many", x.tell(0, 0), 31);
        CHECK.same("promise 43", Check.out(x), "net 4:0-1=9,0-2,1-3=2;row 3012;");
        due(44, "the first", x.octet(0), 'n');
        due(44, "the last", x.octet(30), ';');
        due(44, "behind", x.octet(31), -1);
        due(44, "below", x.octet(-1), -1);
        due(44, "the least number", x.octet(MIN), -1);
        due(43, "no what", x.tell(0, 2), -2);
        due(43, "a what below", x.tell(0, -1), -2);
        due(43, "no net", x.tell(1, 0), -2);
        due(43, "no slot", x.tell(3, 1), -2);
        x.drops(0);
        x.undo();
        due(44, "whatever came since", x.octet(30), ';');
        due(43, "prices", x.tell(0, 1), 6);
        CHECK.same("promise 43", Check.out(x), "2 12 1");
        due(44, "the last was shorter", x.octet(6), -1);
        Check.told(x, 1, "net 1;");
        CHECK.same("promise 43", Check.text(x, 1), "net 1;row 0;");
        due(43, "no prices", x.tell(1, 1), 0);
        due(44, "empty", x.octet(0), -1);
        Check.told(x, 1, manyLines(30).replaceAll("(,|$)", "=9$1") + ";row 876543210;");
        due(43, "the longest", x.tell(1, 0), 200);
        due(43, "great prices", x.tell(1, 1), 28);
        CHECK.same("promise 43", Check.out(x), "45 90 135 180 180 162 126 72");
        due(44, "no act by telling", x.count(1), 3);
        x = Check.with("net 3:0-1=9,0-2,1-2;");
        x.tell(0, 1);
        CHECK.same("promise 43, ten", Check.out(x), "10 2");
        x = Check.with("net 9:0-2=9,0-3=9,0-4=9,0-5=9,0-6=9,0-7=9,0-8=9,"
                + "1-2=9,1-3=9,1-4=9,1-5=9,1-6;");
        x.tell(0, 1);
        CHECK.same("promise 43, a hundred", Check.out(x), "63 100 82 64 46 28 18 9");
    }

    public static void main(String[] args) {
        newObject();
        feedAndEnd();
        told();
        faults();
        faultOfLatest();
        counts();
        look();
        nearLineFar();
        rowAndPlace();
        value();
        priceAndWorst();
        longest();
        overAllRows();
        within();
        boundAndMinor();
        among();
        splitAndHalve();
        bagAndFilled();
        gain();
        rowActs();
        takes();
        polish();
        greedy();
        layers();
        addsAndCuts();
        merges();
        dropsAndUndo();
        tellAndOctet();
        CHECK.close();
    }
}
