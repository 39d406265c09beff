import java.util.ArrayList;
import java.util.List;

/**
 * Texts at their edges: every byte in every place of some texts, every text cut off, tapes that are full,
 * each compared with PlainRow, which reads tokens in another way.
 */
public final class TextTest {
    private static final String[] TEXTS = {
        "net 1;", "net 1;row 0;", "net 3:0-1,1-2=3;row 201;", "net 9:8-0=9;row 876543210;",
        "\n net 4 :\n2 - 3 = 1 , 0 - 1 ; row 3210 ; \n", "net2:0-1=1;row10;", "net 02:01-00=005;"};
    private static final Check CHECK = new Check("TextTest");

    private TextTest() {
    }

    private static String shown(String text) {
        StringBuilder shown = new StringBuilder();
        for (char c : text.toCharArray()) {
            shown.append(c >= 32 && c < 127 ? "" + c : "\\" + (int) c);
        }
        return shown.toString();
    }

    private static void feedPlain(PlainRow plain, String text) {
        for (int i = 0; i < text.length(); i += 20) {
            int[] five = new int[5];
            for (int k = 0; k < 20; k++) {
                five[k / 4] = five[k / 4] << 8 | (i + k < text.length() ? text.charAt(i + k) : 0);
            }
            plain.feed(five);
        }
        plain.end(text.length());
    }

    private static void alike(String text) {
        ThinRow x = new ThinRow();
        PlainRow plain = new PlainRow();
        Check.told(x, 0, "net 5:0-1=7,1-2=7,3-4=7,0-4=7;row 43210;");
        Check.feed(x, text);
        feedPlain(plain, text);
        String what = "\"" + shown(text) + "\"";
        CHECK.due("bytes of " + what, x.count(2), text.length());
        int answer = plain.told(0);
        CHECK.due("told of " + what, x.told(0), answer);
        CHECK.due("fault of " + what, x.fault(0), plain.fault(0));
        CHECK.due("place in " + what, x.fault(1), plain.fault(1));
        CHECK.due("tape behind " + what, x.count(2), 0);
        if (answer >= 0) {
            plain.tell(0, 0);
            StringBuilder due = new StringBuilder();
            for (int i = 0; i < plain.count(3); i++) {
                due.append((char) plain.octet(i));
            }
            CHECK.same("net of " + what, Check.text(x, 0), due.toString());
        } else {
            CHECK.same("net that stays of " + what, Check.text(x, 0),
                    "net 5:0-1=7,0-4=7,1-2=7,3-4=7;row 43210;");
        }
    }

    private static void everyByte(String text) {
        for (int i = 0; i <= text.length(); i++) {
            String ahead = text.substring(0, i);
            String behind = text.substring(i);
            alike(ahead);
            alike(behind);
            for (int b = 0; b < 256; b++) {
                alike(ahead + (char) b + behind);
                if (i < text.length()) {
                    alike(ahead + (char) b + text.substring(i + 1));
                }
            }
            if (i < text.length()) {
                alike(ahead + text.substring(i + 1));
            }
        }
    }

    /** Each token changed for each other one, or told twice. */
    private static void everyToken(String text) {
        List<String> tokens = new ArrayList<>(List.of(text.split("(?<=[^a-z])(?=.)|(?<=[a-z])(?=[^a-z])")));
        List<String> others = List.of("net", "row", "n", "0", "1", "2", "8", "9", "10", "201", "0123",
                ":", ";", ",", "-", "=", "'", " ", "");
        for (int i = 0; i < tokens.size(); i++) {
            for (String other : others) {
                List<String> changed = new ArrayList<>(tokens);
                changed.set(i, other);
                alike(String.join("", changed));
                changed.set(i, tokens.get(i) + other);
                alike(String.join("", changed));
                changed.set(i, tokens.get(i) + " " + other);
                alike(String.join("", changed));
            }
        }
    }

    private static String filledUp(String text, char with, int length) {
        return text + ("" + with).repeat(Math.max(0, length - text.length()));
    }

    /** Four hundred bytes: all are read, and the end is behind the last. */
    private static void fullTapes() {
        for (int length : new int[] {379, 380, 381, 399, 400}) {
            alike(filledUp("net 3:0-1;", ' ', length));
            alike(filledUp("net 3:0-1;row 210;", '\n', length));
            alike(filledUp("net 3", ' ', length));
            alike(filledUp("", ' ', length));
            alike(filledUp("", '0', length));
            alike(filledUp("net ", '0', length));
            alike(filledUp("net ", '1', length));
            alike(filledUp("net 3;row ", '0', length));
            alike(filledUp("net", 't', length));
            alike(filledUp("net ", '0', length - 2) + "3;");
            alike(filledUp("net 3:0-", '0', length - 2) + "1;");
            alike(filledUp("net 3:0-1=", '0', length - 2) + "9;");
            alike(filledUp("net 3", ' ', length - 1) + ";");
            alike(filledUp("net 3;", ' ', length - 1) + "x");
            alike(filledUp("net 3;row 102", ' ', length - 1) + ";");
        }
    }

    /** Bounds of each number, in nets of each size. */
    private static void everyBound() {
        for (int n = 0; n <= 11; n++) {
            alike("net " + n + ";");
            for (int p = 0; p <= 11; p++) {
                alike("net " + n + ":" + p + "-0;");
                alike("net " + n + ":0-" + p + ";");
                alike("net " + n + ":1-" + p + "=9;");
                alike("net " + n + ":0-1=" + p + ";");
                alike("net " + n + ":0-1,1-" + p + ",2-3;");
                alike("net " + n + ";row " + "0123456789".substring(0, Math.min(p, 10)) + ";");
                alike("net " + n + ";row " + "9876543210".substring(10 - Math.min(p, 10)) + ";");
            }
        }
        for (String great : new String[] {"255", "256", "257", "65537", "2147483647", "2147483648",
            "4294967296", "4294967297", "4294967298", "18446744073709551617"}) {
            alike("net " + great + ";");
            alike("net 3:" + great + "-0;");
            alike("net 3:0-" + great + ";");
            alike("net 3:0-1=" + great + ";");
            alike("net 3;row " + great + ";");
        }
    }

    /** Nets with 28 lines and more: the 31st is told in each way that a line can be wrong. */
    private static void manyLines() {
        StringBuilder text = new StringBuilder("net 9");
        int lines = 0;
        for (int a = 0; a < 9; a++) {
            for (int b = a + 1; b < 9; b++) {
                text.append(lines == 0 ? ":" : ",");
                if (lines >= 28) {
                    for (String last : new String[] {"8-7", "9-7", "8-8", "0-1", "8", "8-", "8=", "-", "",
                        ";", "a", "8-9", "10-1", "7-8=0", "7-8=10", "0-0"}) {
                        alike(text + last + ";");
                        alike(text + last);
                    }
                }
                text.append(a).append('-').append(b);
                alike(text + ";");
                alike(text + "=9;");
                alike(text + "=10;");
                lines++;
            }
        }
    }

    public static void main(String[] args) {
        for (String text : TEXTS) {
            everyByte(text);
            everyToken(text);
        }
        fullTapes();
        everyBound();
        manyLines();
        CHECK.close();
    }
}
