/** Counts answers that are not as due, and tells nets as texts. */
final class Check {
    private final String name;
    private int asked;
    private int wrong;

    Check(String name) {
        this.name = name;
    }

    void due(String what, int got, int want) {
        asked++;
        if (got != want) {
            wrong++;
            System.out.println(name + ": " + what + " answered " + got + ", due is " + want);
        }
    }

    void close() {
        System.out.println(name + ": " + asked + " answers asked, " + wrong + " wrong");
        if (wrong > 0 || asked == 0) {
            System.exit(1);
        }
    }

    /** Puts a text behind the tape; what the last feed answered. */
    static int feed(ThinRow x, String text) {
        int before = x.count(2);
        int answer = before;
        for (int i = 0; i < text.length(); i += 20) {
            int[] five = new int[5];
            for (int k = 0; k < 20; k++) {
                int octet = i + k < text.length() ? text.charAt(i + k) : 0;
                five[k / 4] = five[k / 4] << 8 | octet & 255;
            }
            answer = x.feed(five[0], five[1], five[2], five[3], five[4]);
        }
        x.end(before + text.length());
        return answer;
    }

    static int told(ThinRow x, int slot, String text) {
        feed(x, text);
        return x.told(slot);
    }

    /** A new object with one net in slot 0. */
    static ThinRow with(String text) {
        ThinRow x = new ThinRow();
        if (told(x, 0, text) < 0) {
            throw new IllegalArgumentException(text);
        }
        return x;
    }

    static String out(ThinRow x) {
        StringBuilder text = new StringBuilder();
        for (int i = 0; i < x.count(3); i++) {
            text.append((char) x.octet(i));
        }
        return text.toString();
    }

    static String text(ThinRow x, int slot) {
        x.tell(slot, 0);
        return out(x);
    }

    /** The row of a slot as a number of its digits. */
    static int row(ThinRow x, int slot) {
        int digits = 0;
        for (int i = 0; i < x.look(slot, 0); i++) {
            digits = digits * 10 + x.row(slot, i);
        }
        return digits;
    }

    void same(String what, String got, String want) {
        asked++;
        if (!got.equals(want)) {
            wrong++;
            System.out.println(name + ": " + what + " answered \"" + got + "\", due is \"" + want + "\"");
        }
    }
}
