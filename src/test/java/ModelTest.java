import java.lang.reflect.Method;
import java.util.ArrayList;
import java.util.Arrays;
import java.util.HashMap;
import java.util.List;
import java.util.Map;
import java.util.Random;

/** Random runs of calls, each answered by ThinRow and by PlainRow; all promises take part. */
public final class ModelTest {
    private static final String[] READERS = {"look", "near", "line", "far", "row", "place", "value",
        "price", "worst", "longest", "least", "best", "ways", "within", "firsts", "bound", "minor",
        "among", "split", "halve", "bag", "filled", "gain", "polished", "fault", "count", "octet"};
    private static final String[] ACTORS = {"swaps", "moves", "reverse", "takes", "polish", "greedy",
        "layers", "adds", "adds", "cuts", "merges", "drops", "undo", "tell", "end"};

    private final Map<String, Method> faceOf = new HashMap<>();
    private final Map<String, Method> plainOf = new HashMap<>();
    private final Random random;
    private final PlainRow plain = new PlainRow();
    private final ThinRow thin = new ThinRow();
    private final List<String> log = new ArrayList<>();
    private final int mostPoints;
    private int calls;

    private ModelTest(long seed, int mostPoints) {
        random = new Random(seed);
        this.mostPoints = mostPoints;
        for (Method m : ThinRow.class.getDeclaredMethods()) {
            faceOf.put(m.getName(), m);
        }
        for (Method m : PlainRow.class.getDeclaredMethods()) {
            if (!m.isSynthetic() && faceOf.containsKey(m.getName())) {
                m.setAccessible(true);
                plainOf.put(m.getName(), m);
            }
        }
    }

    private void call(String name, int... args) throws ReflectiveOperationException {
        calls++;
        Object[] boxed = Arrays.stream(args).boxed().toArray();
        Object got = faceOf.get(name).invoke(thin, boxed);
        Object due = name.equals("feed") ? (Object) plain.feed(args) : plainOf.get(name).invoke(plain, boxed);
        log.add(name + Arrays.toString(args) + " = " + got);
        if (!got.equals(due)) {
            System.out.println(String.join("\n", log));
            System.out.println("due is " + due);
            System.exit(1);
        }
    }

    private void feedText(String text) throws ReflectiveOperationException {
        int before = plain.count(2);
        for (int i = 0; i < text.length(); i += 20) {
            int[] five = new int[5];
            for (int k = 0; k < 20; k++) {
                int b = i + k < text.length() ? text.charAt(i + k) : random.nextInt(256);
                five[k / 4] = five[k / 4] << 8 | b;
            }
            call("feed", five);
        }
        call("end", before + text.length());
    }

    private String netText() {
        int n = 1 + random.nextInt(mostPoints);
        List<int[]> pairs = new ArrayList<>();
        for (int a = 0; a < n; a++) {
            for (int b = a + 1; b < n; b++) {
                pairs.add(random.nextBoolean() ? new int[] {a, b} : new int[] {b, a});
            }
        }
        java.util.Collections.shuffle(pairs, random);
        int lines = pairs.isEmpty() ? 0 : random.nextInt(pairs.size() + 1);
        StringBuilder text = new StringBuilder(gap("net", " ")).append(gap("" + n, ""));
        for (int i = 0; i < lines; i++) {
            text.append(gap(i == 0 ? ":" : ",", "")).append(gap("" + pairs.get(i)[0], ""));
            text.append(gap("-", "")).append(gap("" + pairs.get(i)[1], ""));
            if (random.nextInt(3) == 0) {
                text.append(gap("=", "")).append(gap("" + (1 + random.nextInt(9)), ""));
            }
        }
        text.append(gap(";", ""));
        if (random.nextInt(2) == 0) {
            List<Integer> row = new ArrayList<>();
            for (int p = 0; p < n; p++) {
                row.add(p);
            }
            java.util.Collections.shuffle(row, random);
            text.append(gap("row", " "));
            row.forEach(text::append);
            text.append(gap(";", ""));
        }
        return text.toString();
    }

    private String gap(String token, String always) {
        int kind = random.nextInt(12);
        return token + (kind == 0 ? " " : kind == 1 ? "\n" : kind == 2 ? " \n " : always);
    }

    /** A text with a few bytes put in, taken out or changed. */
    private String spoilt(String text) {
        StringBuilder s = new StringBuilder(text);
        String signs = "0123456789:;,-= \nrownet\tA\u00e9";
        for (int k = random.nextInt(3); k >= 0 && s.length() > 0; k--) {
            int i = random.nextInt(s.length());
            char c = signs.charAt(random.nextInt(signs.length()));
            switch (random.nextInt(4)) {
                case 0:
                    s.insert(i, c);
                    break;
                case 1:
                    s.deleteCharAt(i);
                    break;
                case 2:
                    s.setCharAt(i, c);
                    break;
                default:
                    s.setLength(random.nextInt(6) == 0 ? i : s.length());
            }
        }
        return s.toString();
    }

    private void tellNet(int slot) throws ReflectiveOperationException {
        String text = netText();
        boolean bad = random.nextInt(3) == 0;
        feedText(bad ? spoilt(text) : text);
        call("told", slot);
        call("fault", 0);
        call("fault", 1);
        call("count", 2);
    }

    private int number() {
        int kind = random.nextInt(40);
        if (kind == 0) {
            return random.nextInt();
        }
        if (kind == 1) {
            return new int[] {-1, -2, 9, 10, 99, 511, 512, Integer.MAX_VALUE, Integer.MIN_VALUE,
                1 << 16, 1 << 31, 32, 33, 64}[random.nextInt(14)];
        }
        return kind < 5 ? random.nextInt(12) - 2 : random.nextInt(mostPoints + 1);
    }

    private int slotNumber() {
        return random.nextInt(30) == 0 ? number() : random.nextInt(3);
    }

    private int measureNumber() {
        return random.nextInt(30) == 0 ? number() : random.nextInt(7);
    }

    private void randomCall(String name) throws ReflectiveOperationException {
        Method m = faceOf.get(name);
        int[] args = new int[m.getParameterCount()];
        for (int i = 0; i < args.length; i++) {
            args[i] = number();
        }
        boolean slotted = !List.of("end", "fault", "count", "octet", "undo").contains(name);
        if (slotted) {
            args[0] = slotNumber();
        }
        if (List.of("value", "price", "worst", "least", "best", "ways", "within", "firsts", "bound",
                "among", "gain", "takes", "polish", "polished", "greedy").contains(name)) {
            args[1] = measureNumber();
        }
        if (name.equals("among")) {
            args[2] = measureNumber();
        }
        if (List.of("tell", "bag").contains(name)) {
            args[1] = random.nextInt(20) == 0 ? number() : random.nextInt(2);
        }
        if (name.equals("bound")) {
            args[2] = random.nextInt(20) == 0 ? number() : random.nextInt(2);
        }
        if (name.equals("split")) {
            args[1] = random.nextInt(8) == 0 ? number() : random.nextInt(1 << mostPoints);
            args[2] = random.nextInt(20) == 0 ? number() : random.nextInt(3);
        }
        if (name.equals("octet")) {
            args[0] = random.nextInt(60) - 2;
        }
        if (name.equals("within") && random.nextBoolean()) {
            args[2] = random.nextInt(20);
        }
        call(name, args);
    }

    /** Every answer about a slot that takes no more than small numbers. */
    private void readAll(int slot) throws ReflectiveOperationException {
        for (int measure = 0; measure < 7; measure++) {
            for (String name : List.of("value", "worst", "least", "ways", "firsts", "polished")) {
                call(name, slot, measure);
            }
            for (int i = 0; i < mostPoints; i++) {
                call("best", slot, measure, i);
                call("price", slot, measure, i);
                call("within", slot, measure, i);
            }
            call("among", slot, measure, random.nextInt(7));
            call("bound", slot, measure, 0);
        }
        for (int what = 0; what < 7; what++) {
            call("look", slot, what);
        }
        call("bound", slot, 2, 1);
        call("minor", slot);
        call("halve", slot);
        call("longest", slot);
        for (int k = -1; k < 8; k++) {
            call("filled", slot, k);
            call("bag", slot, 0, k);
            call("bag", slot, 1, k);
            call("near", slot, k);
        }
        call("tell", slot, 0);
        for (int i = 0; i < 30; i++) {
            call("octet", i);
        }
        call("tell", slot, 1);
    }

    private void run(int length) throws ReflectiveOperationException {
        call("count", 1);
        for (int i = 0; i < 3; i++) {
            tellNet(i);
        }
        while (calls < length) {
            int kind = random.nextInt(100);
            if (kind < 6) {
                tellNet(slotNumber());
            } else if (kind < 40) {
                randomCall(ACTORS[random.nextInt(ACTORS.length)]);
                call("count", 1);
            } else {
                randomCall(READERS[random.nextInt(READERS.length)]);
            }
        }
    }

    public static void main(String[] args) throws ReflectiveOperationException {
        int scale = args.length > 0 ? Integer.parseInt(args[0]) : 1;
        long calls = 0;
        for (int i = 0; i < 150 * scale; i++) {
            ModelTest test = new ModelTest(1000L * scale + i, 2 + i % 4);
            test.run(505);
            calls += test.calls;
        }
        for (int i = 0; i < 40 * scale; i++) {
            ModelTest test = new ModelTest(777_000L * scale + i, 6 + i % 8 / 7);
            test.tellNet(0);
            test.readAll(0);
            calls += test.calls;
        }
        System.out.println("ModelTest: " + calls + " calls answered alike");
    }
}
