import java.util.ArrayDeque;
import java.util.ArrayList;
import java.util.Arrays;
import java.util.Deque;
import java.util.HashMap;
import java.util.List;
import java.util.Map;
import java.util.TreeMap;
import java.util.regex.Matcher;
import java.util.regex.Pattern;

/**
 * The document once more, told as plainly as can be: all rows are gone through one by one, points are
 * really taken out, sets are tried. Slow; it shares nothing with ThinRow but the document.
 */
final class PlainRow {
    /** What a slot holds; it is never changed, acts put another one in its place. */
    static final class Held {
        final int n;
        final int[][] w;
        final List<Integer> row;

        Held(int n, int[][] w, List<Integer> row) {
            this.n = n;
            this.w = w;
            this.row = row;
        }

        Held with(List<Integer> other) {
            return new Held(n, w, other);
        }

        boolean like(Held o) {
            return o != null && n == o.n && Arrays.deepEquals(w, o.w) && row.equals(o.row);
        }

        boolean line(int a, int b) {
            return w[a][b] > 0;
        }
    }

    private final List<Integer> tape = new ArrayList<>();
    private String out = "";
    private final Held[] slots = new Held[3];
    private final Deque<Held[]> past = new ArrayDeque<>();
    private int fault;
    private int faultPlace = -1;
    private final Map<String, List<List<Integer>>> rowsOfSize = new HashMap<>();
    private final Map<String, int[][]> allValues = new HashMap<>();

    // ---- the tape

    int feed(int... five) {
        if (tape.size() + 20 > 400) {
            return -1;
        }
        for (int x : five) {
            for (int k = 3; k >= 0; k--) {
                tape.add(x >> 8 * k & 255);
            }
        }
        return tape.size();
    }

    int end(int n) {
        if (n < 0 || n > tape.size()) {
            return -1;
        }
        while (tape.size() > n) {
            tape.remove(tape.size() - 1);
        }
        return n;
    }

    private static final class Fault extends RuntimeException {
        private static final long serialVersionUID = 1L;
        final int number;
        final int place;

        Fault(int number, int place) {
            this.number = number;
            this.place = place;
        }
    }

    private List<String> tokens;
    private List<Integer> places;
    private int at;

    int told(int slot) {
        if (slot < 0 || slot > 2) {
            return -2;
        }
        StringBuilder text = new StringBuilder();
        for (int b : tape) {
            text.append((char) b);
        }
        tape.clear();
        tokens = new ArrayList<>();
        places = new ArrayList<>();
        Matcher m = Pattern.compile("[a-z]+|[0-9]+|[^ \\n]", Pattern.DOTALL).matcher(text);
        while (m.find()) {
            tokens.add(m.group());
            places.add(m.start());
        }
        tokens.add("");
        places.add(text.length());
        at = 0;
        try {
            Held told = parse();
            fault = 0;
            faultPlace = -1;
            put(slot, told);
            return lines(told);
        } catch (Fault f) {
            fault = f.number;
            faultPlace = f.place;
            return -4;
        }
    }

    private void want(String token) {
        if (!tokens.get(at).equals(token)) {
            throw new Fault(1, places.get(at));
        }
        at++;
    }

    private boolean isNumber() {
        return tokens.get(at).matches("[0-9]+");
    }

    private int number(int low, int high) {
        if (!isNumber()) {
            throw new Fault(1, places.get(at));
        }
        java.math.BigInteger big = new java.math.BigInteger(tokens.get(at));
        if (big.compareTo(java.math.BigInteger.valueOf(low)) < 0
                || big.compareTo(java.math.BigInteger.valueOf(high)) > 0) {
            throw new Fault(2, places.get(at));
        }
        at++;
        return big.intValue();
    }

    private Held parse() {
        want("net");
        int n = number(1, 9);
        int[][] w = new int[n][n];
        int lines = 0;
        if (tokens.get(at).equals(":")) {
            do {
                at++;
                int a = number(0, n - 1);
                if (lines == 30) {
                    throw new Fault(4, places.get(at - 1));
                }
                want("-");
                int b = number(0, n - 1);
                if (a == b) {
                    throw new Fault(2, places.get(at - 1));
                }
                if (w[a][b] != 0) {
                    throw new Fault(3, places.get(at - 1));
                }
                int weight = 1;
                if (tokens.get(at).equals("=")) {
                    at++;
                    weight = number(1, 9);
                }
                w[a][b] = w[b][a] = weight;
                lines++;
            } while (tokens.get(at).equals(","));
        }
        want(";");
        List<Integer> row = upTo(n);
        if (!tokens.get(at).isEmpty()) {
            want("row");
            if (!isNumber()) {
                throw new Fault(1, places.get(at));
            }
            List<Integer> told = new ArrayList<>();
            for (char c : tokens.get(at).toCharArray()) {
                told.add(c - '0');
            }
            List<Integer> sorted = new ArrayList<>(told);
            sorted.sort(null);
            if (!sorted.equals(row)) {
                throw new Fault(5, places.get(at));
            }
            at++;
            row = told;
            want(";");
            want("");
        }
        return new Held(n, w, row);
    }

    private static List<Integer> upTo(int n) {
        List<Integer> row = new ArrayList<>();
        for (int p = 0; p < n; p++) {
            row.add(p);
        }
        return row;
    }

    int fault(int what) {
        return what == 0 ? fault : what == 1 ? faultPlace : -1;
    }

    int count(int what) {
        if (what == 0) {
            int bits = 0;
            for (int s = 0; s < 3; s++) {
                bits += slots[s] == null ? 0 : 1 << s;
            }
            return bits;
        }
        return what == 1 ? past.size() : what == 2 ? tape.size() : what == 3 ? out.length() : -1;
    }

    private void put(int slot, Held next) {
        Held now = slots[slot];
        if (now == next || now != null && now.like(next)) {
            return;
        }
        past.addLast(slots.clone());
        if (past.size() > 10) {
            past.removeFirst();
        }
        slots[slot] = next;
    }

    private Held held(int slot) {
        return slot < 0 || slot > 2 ? null : slots[slot];
    }

    private static boolean in(Held h, int... numbers) {
        for (int x : numbers) {
            if (x < 0 || x >= h.n) {
                return false;
            }
        }
        return true;
    }

    // ---- the net

    private static int lines(Held h) {
        int count = 0;
        for (int a = 0; a < h.n; a++) {
            count += degree(h, a);
        }
        return count / 2;
    }

    private static int degree(Held h, int a) {
        int count = 0;
        for (int x : h.w[a]) {
            count += x > 0 ? 1 : 0;
        }
        return count;
    }

    /** Floyd's way; 99 where there is none. */
    private static int[][] distances(Held h) {
        int[][] d = new int[h.n][h.n];
        for (int a = 0; a < h.n; a++) {
            for (int b = 0; b < h.n; b++) {
                d[a][b] = a == b ? 0 : h.line(a, b) ? 1 : 99;
            }
        }
        for (int k = 0; k < h.n; k++) {
            for (int a = 0; a < h.n; a++) {
                for (int b = 0; b < h.n; b++) {
                    d[a][b] = Math.min(d[a][b], d[a][k] + d[k][b]);
                }
            }
        }
        return d;
    }

    private static int core(Held h) {
        int best = 0;
        for (int set = 1; set < 1 << h.n; set++) {
            int least = 99;
            for (int a = 0; a < h.n; a++) {
                if ((set >> a & 1) == 1) {
                    int with = 0;
                    for (int b = 0; b < h.n; b++) {
                        with += (set >> b & 1) == 1 && h.line(a, b) ? 1 : 0;
                    }
                    least = Math.min(least, with);
                }
            }
            best = Math.max(best, least);
        }
        return best;
    }

    int look(int slot, int what) {
        Held h = held(slot);
        if (h == null || what < 0 || what > 6) {
            return -2;
        }
        int[][] d = distances(h);
        int weight = 0;
        int most = 0;
        int parts = 0;
        int diameter = 0;
        for (int a = 0; a < h.n; a++) {
            most = Math.max(most, degree(h, a));
            boolean least = true;
            for (int b = 0; b < h.n; b++) {
                weight += h.w[a][b];
                diameter = Math.max(diameter, d[a][b]);
                least &= !(b < a && d[a][b] < 99);
            }
            parts += least ? 1 : 0;
        }
        int[] all = {h.n, lines(h), weight / 2, most, parts, diameter >= 99 ? -1 : diameter, core(h)};
        return all[what];
    }

    int near(int slot, int point) {
        Held h = held(slot);
        if (h == null || !in(h, point)) {
            return -2;
        }
        int bits = 0;
        for (int b = 0; b < h.n; b++) {
            bits += h.line(point, b) ? 1 << b : 0;
        }
        return bits;
    }

    int line(int slot, int a, int b) {
        Held h = held(slot);
        return h == null || !in(h, a, b) ? -2 : h.w[a][b];
    }

    int far(int slot, int a, int b) {
        Held h = held(slot);
        if (h == null || !in(h, a, b)) {
            return -2;
        }
        int d = distances(h)[a][b];
        return d >= 99 ? -1 : d;
    }

    // ---- rows

    int row(int slot, int place) {
        Held h = held(slot);
        return h == null || !in(h, place) ? -2 : h.row.get(place);
    }

    int place(int slot, int point) {
        Held h = held(slot);
        return h == null || !in(h, point) ? -2 : h.row.indexOf(point);
    }

    private static final int CUT = 0;
    private static final int GATE = 1;
    private static final int BAND = 2;
    private static final int PROFILE = 4;
    private static final int WIDTH = 5;
    private static final int FILL = 6;

    /** Of each place: the point's neighbours as the points of a row are really taken out. */
    private static final class Taking {
        final List<List<Integer>> around = new ArrayList<>();
        final List<List<Integer>> fresh = new ArrayList<>();

        Taking(Held h, List<Integer> row) {
            boolean[][] line = new boolean[h.n][h.n];
            for (int a = 0; a < h.n; a++) {
                for (int b = 0; b < h.n; b++) {
                    line[a][b] = h.line(a, b);
                }
            }
            for (int p : row) {
                List<Integer> mine = new ArrayList<>();
                for (int b = 0; b < h.n; b++) {
                    if (line[p][b]) {
                        mine.add(b);
                    }
                }
                List<Integer> came = new ArrayList<>();
                for (int a : mine) {
                    for (int b : mine) {
                        if (a < b && !line[a][b]) {
                            line[a][b] = line[b][a] = true;
                            came.add(10 * a + b);
                        }
                    }
                    line[a][p] = line[p][a] = false;
                }
                around.add(mine);
                fresh.add(came);
            }
        }
    }

    /** Price ahead of place i (of WIDTH, FILL at it), or -1 if there is no such step. */
    private static int[] prices(Held h, List<Integer> row, int measure) {
        int[] prices = new int[h.n];
        if (measure == WIDTH || measure == FILL) {
            Taking t = new Taking(h, row);
            for (int i = 0; i < h.n; i++) {
                prices[i] = measure == WIDTH ? t.around.get(i).size() : t.fresh.get(i).size();
            }
            return prices;
        }
        prices[0] = -1;
        for (int i = 1; i < h.n; i++) {
            List<Integer> ahead = row.subList(0, i);
            List<Integer> others = row.subList(i, h.n);
            prices[i] = between(h, ahead, others, measure == GATE ? 1 : measure == PROFILE ? 2 : 0);
        }
        return prices;
    }

    private static int between(Held h, List<Integer> some, List<Integer> others, int what) {
        int weight = 0;
        int gate = 0;
        int fringe = 0;
        for (int a : some) {
            boolean has = false;
            for (int b : others) {
                weight += h.w[a][b];
                has |= h.line(a, b);
            }
            gate += has ? 1 : 0;
        }
        for (int b : others) {
            boolean has = false;
            for (int a : some) {
                has |= h.line(a, b);
            }
            fringe += has ? 1 : 0;
        }
        return what == 0 ? weight : what == 1 ? gate : fringe;
    }

    private static int valueOf(Held h, List<Integer> row, int measure) {
        if (measure == BAND) {
            int most = 0;
            for (int a = 0; a < h.n; a++) {
                for (int b = 0; b < h.n; b++) {
                    if (h.line(a, b)) {
                        most = Math.max(most, row.indexOf(a) - row.indexOf(b));
                    }
                }
            }
            return most;
        }
        int most = 0;
        int sum = 0;
        for (int p : prices(h, row, measure)) {
            most = Math.max(most, p);
            sum += Math.max(0, p);
        }
        return measure == CUT || measure == GATE || measure == WIDTH ? most : sum;
    }

    private static boolean measure(int m) {
        return m >= 0 && m <= 6;
    }

    int value(int slot, int measure) {
        Held h = held(slot);
        return h == null || !measure(measure) ? -2 : valueOf(h, h.row, measure);
    }

    int price(int slot, int measure, int i) {
        Held h = held(slot);
        if (h == null || !measure(measure) || measure == BAND || !in(h, i)) {
            return -2;
        }
        int price = prices(h, h.row, measure)[i];
        return price < 0 ? -2 : price;
    }

    int worst(int slot, int measure) {
        Held h = held(slot);
        if (h == null || !measure(measure) || measure == BAND) {
            return -2;
        }
        int[] p = prices(h, h.row, measure);
        int worst = 0;
        for (int i = 1; i < h.n; i++) {
            if (p[i] > p[worst]) {
                worst = i;
            }
        }
        return p[worst] < 0 ? -2 : worst;
    }

    int longest(int slot) {
        Held h = held(slot);
        if (h == null) {
            return -2;
        }
        TreeMap<Integer, Integer> byLength = new TreeMap<>();
        for (int a = 0; a < h.n; a++) {
            for (int b = a + 1; b < h.n; b++) {
                if (h.line(a, b)) {
                    byLength.putIfAbsent(Math.abs(h.row.indexOf(a) - h.row.indexOf(b)), 10 * a + b);
                }
            }
        }
        return byLength.isEmpty() ? -1 : byLength.lastEntry().getValue();
    }

    // ---- all rows

    private List<List<Integer>> allRows(int n) {
        return rowsOfSize.computeIfAbsent("" + n, key -> {
            List<List<Integer>> rows = new ArrayList<>();
            grow(new ArrayList<>(), n, rows);
            return rows;
        });
    }

    private static void grow(List<Integer> begun, int n, List<List<Integer>> rows) {
        if (begun.size() == n) {
            rows.add(new ArrayList<>(begun));
            return;
        }
        for (int p = 0; p < n; p++) {
            if (!begun.contains(p)) {
                begun.add(p);
                grow(begun, n, rows);
                begun.remove(begun.size() - 1);
            }
        }
    }

    private int[] valuesOfAll(Held h, int measure) {
        String key = h.n + Arrays.deepToString(h.w);
        if (allValues.size() > 30) {
            allValues.clear();
        }
        int[][] values = allValues.computeIfAbsent(key, k -> new int[7][]);
        if (values[measure] == null) {
            List<List<Integer>> rows = allRows(h.n);
            int[] v = new int[rows.size()];
            for (int r = 0; r < v.length; r++) {
                v[r] = valueOf(h, rows.get(r), measure);
            }
            values[measure] = v;
        }
        return values[measure];
    }

    int least(int slot, int measure) {
        Held h = held(slot);
        return h == null || !measure(measure) ? -2 : Arrays.stream(valuesOfAll(h, measure)).min().getAsInt();
    }

    private List<Integer> firstBest(Held h, int slot, int measure) {
        int least = least(slot, measure);
        int[] v = valuesOfAll(h, measure);
        for (int r = 0; r < v.length; r++) {
            if (v[r] == least) {
                return allRows(h.n).get(r);
            }
        }
        throw new IllegalStateException();
    }

    int best(int slot, int measure, int place) {
        Held h = held(slot);
        return h == null || !measure(measure) || !in(h, place) ? -2 : firstBest(h, slot, measure).get(place);
    }

    int ways(int slot, int measure) {
        Held h = held(slot);
        if (h == null || !measure(measure)) {
            return -2;
        }
        int least = least(slot, measure);
        return (int) Arrays.stream(valuesOfAll(h, measure)).filter(v -> v == least).count();
    }

    int within(int slot, int measure, int limit) {
        Held h = held(slot);
        if (h == null || limit < 0 || !List.of(0, 1, 2, 5).contains(measure)) {
            return -2;
        }
        return (int) Arrays.stream(valuesOfAll(h, measure)).filter(v -> v <= limit).count();
    }

    int firsts(int slot, int measure) {
        Held h = held(slot);
        if (h == null || !measure(measure)) {
            return -2;
        }
        int least = least(slot, measure);
        int[] v = valuesOfAll(h, measure);
        int bits = 0;
        for (int r = 0; r < v.length; r++) {
            bits |= v[r] == least ? 1 << allRows(h.n).get(r).get(0) : 0;
        }
        return bits;
    }

    int bound(int slot, int measure, int what) {
        Held h = held(slot);
        if (h == null || !List.of(0, 1, 2, 5).contains(measure)) {
            return -2;
        }
        if (what == 1 && measure == BAND) {
            int[][] d = distances(h);
            int most = 0;
            for (int a = 0; a < h.n; a++) {
                for (int r = 1; r < h.n; r++) {
                    int others = 0;
                    for (int b = 0; b < h.n; b++) {
                        others += b != a && d[a][b] <= r ? 1 : 0;
                    }
                    most = Math.max(most, (int) Math.ceil(others / (2.0 * r)));
                }
            }
            return most;
        }
        if (what != 0) {
            return -2;
        }
        double weight = 0;
        for (int[] w : h.w) {
            weight = Math.max(weight, Arrays.stream(w).sum());
        }
        return measure == CUT ? (int) Math.ceil(weight / 2)
                : measure == BAND ? (int) Math.ceil(look(slot, 3) / 2.0) : core(h);
    }

    int minor(int slot) {
        Held h = held(slot);
        if (h == null) {
            return -2;
        }
        TreeMap<Integer, List<Integer>> near = new TreeMap<>();
        for (int a = 0; a < h.n; a++) {
            List<Integer> mine = new ArrayList<>();
            for (int b = 0; b < h.n; b++) {
                if (h.line(a, b)) {
                    mine.add(b);
                }
            }
            near.put(a, mine);
        }
        int most = 0;
        while (!near.isEmpty()) {
            int p = fewest(near, near.keySet());
            most = Math.max(most, near.get(p).size());
            if (near.get(p).isEmpty()) {
                near.remove(p);
                continue;
            }
            int q = fewest(near, near.get(p));
            int stays = Math.min(p, q);
            Integer goes = Math.max(p, q);
            for (int b : near.remove(goes)) {
                near.get(b).remove(goes);
                if (b != stays && !near.get(b).contains(stays)) {
                    near.get(b).add(stays);
                    near.get(stays).add(b);
                }
            }
        }
        return most;
    }

    private static int fewest(Map<Integer, List<Integer>> near, Iterable<Integer> some) {
        int best = -1;
        for (int p : some) {
            if (best < 0 || near.get(p).size() < near.get(best).size()
                    || near.get(p).size() == near.get(best).size() && p < best) {
                best = p;
            }
        }
        return best;
    }

    int among(int slot, int first, int second) {
        Held h = held(slot);
        if (h == null || !List.of(0, 1, 5).contains(first) || !measure(second) || second == BAND) {
            return -2;
        }
        int least = least(slot, first);
        int[] a = valuesOfAll(h, first);
        int[] b = valuesOfAll(h, second);
        int best = 1 << 30;
        for (int r = 0; r < a.length; r++) {
            best = a[r] == least ? Math.min(best, b[r]) : best;
        }
        return best;
    }

    // ---- sets and bags

    int split(int slot, int set, int what) {
        Held h = held(slot);
        if (h == null || set < 0 || set >= 1 << h.n || what < 0 || what > 2) {
            return -2;
        }
        List<Integer> some = new ArrayList<>();
        List<Integer> others = new ArrayList<>();
        for (int p = 0; p < h.n; p++) {
            ((set >> p & 1) == 1 ? some : others).add(p);
        }
        return between(h, some, others, what);
    }

    int halve(int slot) {
        Held h = held(slot);
        if (h == null) {
            return -2;
        }
        int best = -1;
        for (int set = (1 << h.n) - 1; set >= 0; set--) {
            if (Integer.bitCount(set) == h.n / 2
                    && (best < 0 || split(slot, set, 0) <= split(slot, best, 0))) {
                best = set;
            }
        }
        return best;
    }

    int bag(int slot, int what, int place) {
        Held h = held(slot);
        if (h == null || what < 0 || what > 1 || !in(h, place)) {
            return -2;
        }
        int bits = 1 << h.row.get(place);
        if (what == 1) {
            for (int b : new Taking(h, h.row).around.get(place)) {
                bits |= 1 << b;
            }
            return bits;
        }
        for (int i = 0; i < place; i++) {
            for (int j = place; j < h.n; j++) {
                bits |= h.line(h.row.get(i), h.row.get(j)) ? 1 << h.row.get(i) : 0;
            }
        }
        return bits;
    }

    int filled(int slot, int k) {
        Held h = held(slot);
        if (h == null || k < -1) {
            return -2;
        }
        List<Integer> all = new ArrayList<>();
        new Taking(h, h.row).fresh.forEach(all::addAll);
        return k == -1 ? all.size() : k < all.size() ? all.get(k) : -1;
    }

    // ---- other rows

    private static List<Integer> changed(List<Integer> row, int i, int j) {
        List<Integer> other = new ArrayList<>(row);
        other.set(i, row.get(j));
        other.set(j, row.get(i));
        return other;
    }

    int gain(int slot, int measure, int i, int j) {
        Held h = held(slot);
        if (h == null || !measure(measure) || !in(h, i, j)) {
            return -1000;
        }
        return valueOf(h, changed(h.row, i, j), measure) - valueOf(h, h.row, measure);
    }

    int swaps(int slot, int i, int j) {
        Held h = held(slot);
        if (h == null || !in(h, i, j)) {
            return -2;
        }
        put(slot, h.with(changed(h.row, i, j)));
        return h.row.get(i);
    }

    int moves(int slot, int from, int to) {
        Held h = held(slot);
        if (h == null || !in(h, from, to)) {
            return -2;
        }
        List<Integer> other = new ArrayList<>(h.row);
        Integer point = other.remove(from);
        other.add(to, point);
        put(slot, h.with(other));
        return point;
    }

    int reverse(int slot) {
        Held h = held(slot);
        if (h == null) {
            return -2;
        }
        List<Integer> other = new ArrayList<>();
        for (int p : h.row) {
            other.add(0, p);
        }
        put(slot, h.with(other));
        return other.get(0);
    }

    private static int unlike(List<Integer> a, List<Integer> b) {
        int count = 0;
        for (int i = 0; i < a.size(); i++) {
            count += a.get(i).equals(b.get(i)) ? 0 : 1;
        }
        return count;
    }

    int takes(int slot, int measure) {
        Held h = held(slot);
        if (h == null || !measure(measure)) {
            return -2;
        }
        List<Integer> other = firstBest(h, slot, measure);
        put(slot, h.with(other));
        return unlike(h.row, other);
    }

    private static List<List<Integer>> polishing(Held h, int measure) {
        List<List<Integer>> steps = new ArrayList<>();
        steps.add(h.row);
        while (true) {
            List<Integer> now = steps.get(steps.size() - 1);
            List<Integer> best = null;
            for (int i = 0; i < h.n; i++) {
                for (int j = i + 1; j < h.n; j++) {
                    List<Integer> other = changed(now, i, j);
                    if (best == null || valueOf(h, other, measure) < valueOf(h, best, measure)) {
                        best = other;
                    }
                }
            }
            if (best == null || valueOf(h, best, measure) >= valueOf(h, now, measure)) {
                return steps;
            }
            steps.add(best);
        }
    }

    int polish(int slot, int measure) {
        Held h = held(slot);
        if (h == null || !measure(measure)) {
            return -2;
        }
        List<List<Integer>> steps = polishing(h, measure);
        put(slot, h.with(steps.get(steps.size() - 1)));
        return steps.size() - 1;
    }

    int polished(int slot, int measure) {
        Held h = held(slot);
        if (h == null || !measure(measure)) {
            return -2;
        }
        List<List<Integer>> steps = polishing(h, measure);
        return valueOf(h, steps.get(steps.size() - 1), measure);
    }

    int greedy(int slot, int measure) {
        Held h = held(slot);
        if (h == null || !measure(measure) || measure == BAND) {
            return -2;
        }
        List<Integer> row = new ArrayList<>();
        for (int i = 0; i < h.n; i++) {
            int best = -1;
            int least = 0;
            for (int p = 0; p < h.n; p++) {
                if (row.contains(p)) {
                    continue;
                }
                List<Integer> whole = new ArrayList<>(row);
                whole.add(p);
                for (int q = 0; q < h.n; q++) {
                    if (!whole.contains(q)) {
                        whole.add(q);
                    }
                }
                int[] prices = prices(h, whole, measure);
                int step = measure == WIDTH || measure == FILL ? i : i + 1;
                int price = step < h.n ? prices[step] : 0;
                if (best < 0 || price < least) {
                    best = p;
                    least = price;
                }
            }
            row.add(best);
        }
        put(slot, h.with(row));
        return valueOf(h, row, measure);
    }

    int layers(int slot, int point) {
        Held h = held(slot);
        if (h == null || !in(h, point)) {
            return -2;
        }
        int[] d = distances(h)[point];
        List<Integer> row = upTo(h.n);
        row.sort((a, b) -> d[a] != d[b] && (d[a] < 99 || d[b] < 99) ? d[a] - d[b] : a - b);
        put(slot, h.with(row));
        return unlike(h.row, row);
    }

    // ---- other nets

    private static int[][] deepCopy(int[][] w) {
        int[][] copy = new int[w.length][];
        for (int a = 0; a < w.length; a++) {
            copy[a] = w[a].clone();
        }
        return copy;
    }

    private void weigh(int slot, Held h, int a, int b, int weight) {
        int[][] w = deepCopy(h.w);
        w[a][b] = w[b][a] = weight;
        put(slot, new Held(h.n, w, h.row));
    }

    int adds(int slot, int a, int b, int weight) {
        Held h = held(slot);
        if (h == null || !in(h, a, b) || a == b || weight < 1 || weight > 9) {
            return -2;
        }
        if (!h.line(a, b) && lines(h) == 30) {
            return -5;
        }
        weigh(slot, h, a, b, weight);
        return h.w[a][b];
    }

    int cuts(int slot, int a, int b) {
        Held h = held(slot);
        if (h == null || !in(h, a, b) || a == b) {
            return -2;
        }
        if (!h.line(a, b)) {
            return -6;
        }
        weigh(slot, h, a, b, 0);
        return h.w[a][b];
    }

    int merges(int slot, int a, int b) {
        Held h = held(slot);
        if (h == null || !in(h, a, b) || a == b) {
            return -2;
        }
        if (!h.line(a, b)) {
            return -6;
        }
        int goes = Math.max(a, b);
        int[] becomes = new int[h.n];
        for (int p = 0; p < h.n; p++) {
            becomes[p] = p == goes ? Math.min(a, b) : p > goes ? p - 1 : p;
        }
        int[][] w = new int[h.n - 1][h.n - 1];
        for (int p = 0; p < h.n; p++) {
            for (int q = 0; q < h.n; q++) {
                if (becomes[p] != becomes[q]) {
                    w[becomes[p]][becomes[q]] += h.w[p][q];
                }
            }
        }
        for (int[] line : w) {
            for (int q = 0; q < line.length; q++) {
                line[q] = Math.min(9, line[q]);
            }
        }
        List<Integer> row = new ArrayList<>();
        for (int p : h.row) {
            if (p != goes) {
                row.add(becomes[p]);
            }
        }
        put(slot, new Held(h.n - 1, w, row));
        return h.n - 1;
    }

    int drops(int slot) {
        if (slot < 0 || slot > 2) {
            return -2;
        }
        if (slots[slot] == null) {
            return 0;
        }
        put(slot, null);
        return 1;
    }

    int undo() {
        if (past.isEmpty()) {
            return -1;
        }
        System.arraycopy(past.removeLast(), 0, slots, 0, 3);
        return past.size();
    }

    // ---- what is told

    int tell(int slot, int what) {
        Held h = held(slot);
        if (h == null || what < 0 || what > 1) {
            return -2;
        }
        List<String> parts = new ArrayList<>();
        if (what == 1) {
            for (int i = 1; i < h.n; i++) {
                parts.add("" + prices(h, h.row, CUT)[i]);
            }
            out = String.join(" ", parts);
            return out.length();
        }
        for (int a = 0; a < h.n; a++) {
            for (int b = a + 1; b < h.n; b++) {
                if (h.line(a, b)) {
                    parts.add(a + "-" + b + (h.w[a][b] == 1 ? "" : "=" + h.w[a][b]));
                }
            }
        }
        StringBuilder digits = new StringBuilder();
        h.row.forEach(digits::append);
        out = "net " + h.n + (parts.isEmpty() ? "" : ":" + String.join(",", parts)) + ";row " + digits + ";";
        return out.length();
    }

    int octet(int i) {
        return i < 0 || i >= out.length() ? -1 : out.charAt(i);
    }
}
