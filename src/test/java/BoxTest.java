import java.lang.reflect.Method;
import java.util.ArrayList;
import java.util.Arrays;
import java.util.HashMap;
import java.util.List;
import java.util.Map;
import java.util.TreeSet;

/**
 * Bounds of every number that a call takes: each is moved through its bounds and beyond them, the others
 * staying fine. Outside, the call is refused and changes nothing, not even what can be undone; inside, it
 * is not refused.
 */
public final class BoxTest {
    /** "=3" is a number that stays; each other word is a kind of numbers, and is moved: see fits(). */
    private static final String[] CALLS = {
        "look slot 0..6", "near slot point", "line slot point point", "far slot point point",
        "row slot point", "place slot point", "value slot measure",
        "price slot priced =1", "price slot =0 1..n-1", "price slot =1 1..n-1", "price slot =3 1..n-1",
        "price slot =4 1..n-1", "price slot =5 point", "price slot =6 point", "price =0 =2 none",
        "worst slot priced", "longest slot", "least slot measure", "best slot measure point",
        "ways slot measure", "within slot limited =1", "within slot =0 0..max", "within slot =1 0..max",
        "within slot =2 0..max", "within slot =5 0..max", "firsts slot measure",
        "bound slot limited =0", "bound slot =0 0..0", "bound slot =1 0..0", "bound slot =2 0..1",
        "bound slot =5 0..0", "bound slot band =1", "minor slot", "among slot guard priced",
        "split slot set =0", "split slot =1 0..2", "split slot set =2", "halve slot", "bag slot 0..1 point",
        "filled slot -1..max", "gain slot measure point point", "swaps slot point point",
        "moves slot point point", "reverse slot", "takes slot measure", "polish slot measure",
        "polished slot measure", "greedy slot priced", "layers slot point", "tell slot 0..1",
        "adds slot =0 other =9", "adds slot other =0 =9", "adds slot =0 =1 1..9",
        "cuts slot =0 other", "cuts slot other =0", "merges slot =0 other", "merges slot other =0"};
    private static final String[] NETS = {
        "net 2:0-1=3;row 10;",
        "net 5:0-1=2,1-2,2-3=9,0-4;row 31420;",
        "net 9:0-1,1-2=9,2-3,3-4=2,4-5,5-6,6-7,7-8=5,8-0,0-4,2-6;row 864207531;"};
    /** So many calls at once, that all calls on an object are less than 512. */
    private static final int AT_ONCE = 80;

    private static final Check CHECK = new Check("BoxTest");
    private static final Map<String, Method> FACE = new HashMap<>();

    private final String spec;
    private final String name;
    private final String[] kinds;
    private final int net;
    private final int points;

    private BoxTest(String spec, int net) {
        this.spec = spec;
        this.net = net;
        List<String> words = List.of(spec.split(" "));
        name = words.get(0);
        kinds = words.subList(1, words.size()).toArray(new String[0]);
        points = made(net).look(0, 0);
    }

    /** Slots 0 and 2 have one net, slot 1 has none; acts, a fault, something on the tape and in OUT. */
    private static ThinRow made(int net) {
        ThinRow x = new ThinRow();
        Check.told(x, 0, "net 3:0-2=4;");
        Check.told(x, 2, NETS[net]);
        Check.told(x, 0, NETS[net]);
        x.swaps(0, 0, 1);
        x.tell(0, 1);
        Check.told(x, 1, "net 3;row 00;");
        Check.feed(x, "net 2;");
        return x;
    }

    private static boolean fits(String kind, int n, int v) {
        boolean limited = v == 0 || v == 1 || v == 5;
        switch (kind) {
            case "slot":
                return v == 0 || v == 2;
            case "point":
                return v >= 0 && v < n;
            case "other":
                return v >= 1 && v < n;
            case "measure":
                return v >= 0 && v <= 6;
            case "priced":
                return v >= 0 && v <= 6 && v != 2;
            case "limited":
                return limited || v == 2;
            case "guard":
                return limited;
            case "band":
                return v == 2;
            case "none":
                return false;
            case "set":
                return v >= 0 && v < 1 << n;
            default:
                return isBetween(kind, n, v);
        }
    }

    private static boolean isBetween(String kind, int n, int v) {
        String[] ends = kind.split("\\.\\.");
        int high = ends[1].equals("max") ? Integer.MAX_VALUE
                : ends[1].equals("n-1") ? n - 1 : Integer.parseInt(ends[1]);
        return v >= Integer.parseInt(ends[0]) && v <= high;
    }

    /** Small numbers, powers of two and what lies around them: fine ones that have wrapped around, too. */
    private static TreeSet<Integer> numbers() {
        TreeSet<Integer> all = new TreeSet<>(List.of(-1000, 1000, 100, -100));
        for (int v = -12; v <= 34; v++) {
            all.add(v);
        }
        for (int k = 5; k < 32; k++) {
            for (int d = -2; d <= 2; d++) {
                all.add((1 << k) + d);
                all.add(-(1 << k) + d);
            }
        }
        return all;
    }

    private int answer(ThinRow x, int[] args) {
        try {
            return (Integer) FACE.get(name).invoke(x, Arrays.stream(args).boxed().toArray());
        } catch (ReflectiveOperationException e) {
            throw new IllegalStateException(name + Arrays.toString(args), e);
        }
    }

    /** All that can be read of an object without changing anything. */
    private static String seen(ThinRow x) {
        StringBuilder text = new StringBuilder();
        for (int what = 0; what < 4; what++) {
            text.append(x.count(what)).append(' ');
        }
        text.append(x.fault(0)).append(' ').append(x.fault(1)).append(' ');
        for (int i = 0; i < x.count(3); i++) {
            text.append(x.octet(i)).append(',');
        }
        for (int slot = 0; slot < 3; slot++) {
            int n = x.look(slot, 0);
            text.append(" | ").append(n).append(':');
            for (int a = 0; a < n; a++) {
                text.append(x.row(slot, a)).append(' ').append(x.near(slot, a)).append(' ');
            }
            text.append(x.look(slot, 1)).append(' ').append(x.look(slot, 2));
        }
        return text.toString();
    }

    /** What is seen now, and as acts are undone one by one; the object is used up. */
    private static String seenBack(ThinRow x) {
        StringBuilder all = new StringBuilder(seen(x));
        for (int left = x.undo(); left >= 0; left = x.undo()) {
            all.append('\n').append(left).append(' ').append(seen(x));
        }
        return all.toString();
    }

    private static void staysAsMade(String what, ThinRow x, int net) {
        CHECK.same(what + " changes nothing", seenBack(x), seenBack(made(net)));
    }

    /** Numbers that are all fine. */
    private int[] fine() {
        int[] args = new int[kinds.length];
        for (int i = 0; i < kinds.length; i++) {
            if (kinds[i].startsWith("=")) {
                args[i] = Integer.parseInt(kinds[i].substring(1));
            } else if (!kinds[i].equals("none")) {
                while (!fits(kinds[i], points, args[i])) {
                    args[i]++;
                }
            }
        }
        return args;
    }

    private void move(int i) {
        int refusal = name.equals("gain") ? -1000 : -2;
        ThinRow refusing = made(net);
        int refused = 0;
        for (int v : numbers()) {
            int[] args = fine();
            args[i] = v;
            String what = name + Arrays.toString(args) + " of " + NETS[net];
            if (fits(kinds[i], points, v)) {
                CHECK.due(what + " refused", answer(made(net), args) == refusal ? 1 : 0, 0);
                continue;
            }
            CHECK.due(what, answer(refusing, args), refusal);
            refused++;
            if (refused % AT_ONCE == 0) {
                staysAsMade(spec, refusing, net);
                refusing = made(net);
            }
        }
        staysAsMade(spec, refusing, net);
    }

    private void moveEach() {
        for (int i = 0; i < kinds.length; i++) {
            if (!kinds[i].startsWith("=")) {
                move(i);
            }
        }
    }

    /** All numbers but the slot are fine, but there is no net; or it is fine, and all others are not. */
    private void refuseWhole() {
        int refusal = name.equals("gain") ? -1000 : -2;
        ThinRow x = made(net);
        int[] args = fine();
        args[0] = 1;
        CHECK.due(spec + " without a net", answer(x, args), refusal);
        for (int v : new int[] {-3, -1001, 600, Integer.MIN_VALUE}) {
            Arrays.fill(args, v);
            CHECK.due(name + Arrays.toString(args), answer(x, args), refusal);
        }
        staysAsMade(spec, x, net);
    }

    /** Calls that take no slot; told() and drops(), which ask for no net in it. */
    private static void others() {
        List<Integer> all = new ArrayList<>(numbers());
        for (int from = 0; from < all.size(); from += AT_ONCE / 2) {
            ThinRow x = made(1);
            int out = x.count(3);
            for (int v : all.subList(from, Math.min(all.size(), from + AT_ONCE / 2))) {
                if (v < 0 || v > 2) {
                    CHECK.due("told in " + v, x.told(v), -2);
                    CHECK.due("drops " + v, x.drops(v), -2);
                }
                if (v < 0 || v > 6) {
                    CHECK.due("end at " + v, x.end(v), -1);
                }
                if (v < 0 || v > 3) {
                    CHECK.due("count " + v, x.count(v), -1);
                }
                if (v < 0 || v > 1) {
                    CHECK.due("fault " + v, x.fault(v), -1);
                }
                if (v < 0 || v >= out) {
                    CHECK.due("octet " + v, x.octet(v), -1);
                }
            }
            CHECK.due("drops without a net", x.drops(1), 0);
            staysAsMade("calls without a slot", x, 1);
        }
    }

    public static void main(String[] args) {
        for (Method m : ThinRow.class.getDeclaredMethods()) {
            FACE.put(m.getName(), m);
        }
        for (int net = 0; net < NETS.length; net++) {
            for (String spec : CALLS) {
                BoxTest test = new BoxTest(spec, net);
                test.moveEach();
                test.refuseWhole();
            }
        }
        others();
        CHECK.close();
    }
}
