import java.util.Random;

/** Nets of eight and nine points: every row is gone through and measured, as the document says it. */
public final class BigNetTest {
    private static final int[] LIMITED = {0, 1, 5};

    private final int n;
    private final int[][] w;
    private final int[] near;
    private final int[] row;
    private final int[] least = new int[7];
    private final int[] ways = new int[7];
    private final int[] firsts = new int[7];
    private final int[] best = new int[7];
    private final int[][] rowsOf = new int[7][4000];
    private final int[][] leastBy = new int[7][7];
    private final int[] valueNow = new int[7];

    private BigNetTest(int n, int[][] w) {
        this.n = n;
        this.w = w;
        near = new int[n];
        row = new int[n];
        for (int a = 0; a < n; a++) {
            for (int b = 0; b < n; b++) {
                near[a] |= w[a][b] > 0 ? 1 << b : 0;
            }
        }
        java.util.Arrays.fill(least, Integer.MAX_VALUE);
    }

    private void measureRow() {
        java.util.Arrays.fill(valueNow, 0);
        int[] left = near.clone();
        int ahead = 0;
        for (int i = 0; i < n; i++) {
            int cut = 0;
            int gate = 0;
            int profile = 0;
            for (int a = 0; a < n; a++) {
                boolean isAhead = (ahead >> a & 1) == 1;
                gate += isAhead && (near[a] & ~ahead) != 0 ? 1 : 0;
                profile += !isAhead && (near[a] & ahead) != 0 ? 1 : 0;
                for (int b = 0; isAhead && b < n; b++) {
                    cut += (ahead >> b & 1) == 0 ? w[a][b] : 0;
                }
            }
            valueNow[0] = Math.max(valueNow[0], cut);
            valueNow[1] = Math.max(valueNow[1], gate);
            valueNow[3] += cut;
            valueNow[4] += profile;
            takeOut(left, row[i]);
            for (int j = 0; j < i; j++) {
                valueNow[2] = w[row[i]][row[j]] > 0 ? Math.max(valueNow[2], i - j) : valueNow[2];
            }
            ahead |= 1 << row[i];
        }
    }

    private void takeOut(int[] left, int point) {
        int around = left[point];
        valueNow[5] = Math.max(valueNow[5], Integer.bitCount(around));
        int came = 0;
        for (int a = 0; a < n; a++) {
            if ((around >> a & 1) == 1) {
                int now = (left[a] | around) & ~(1 << a | 1 << point);
                came += Integer.bitCount(now) - Integer.bitCount(left[a] & ~(1 << point));
                left[a] = now;
            }
        }
        valueNow[6] += came / 2;
    }

    private int digits() {
        int digits = 0;
        for (int p : row) {
            digits = digits * 10 + p;
        }
        return digits;
    }

    private void takeDown() {
        for (int m = 0; m < 7; m++) {
            int v = valueNow[m];
            rowsOf[m][v]++;
            if (v < least[m]) {
                least[m] = v;
                ways[m] = 0;
                firsts[m] = 0;
                best[m] = digits();
                leastBy[m] = valueNow.clone();
            }
            if (v == least[m]) {
                ways[m]++;
                firsts[m] |= 1 << row[0];
                for (int k = 0; k < 7; k++) {
                    leastBy[m][k] = Math.min(leastBy[m][k], valueNow[k]);
                }
            }
        }
    }

    private void allRows(int place, int used) {
        if (place == n) {
            measureRow();
            takeDown();
            return;
        }
        for (int p = 0; p < n; p++) {
            if ((used >> p & 1) == 0) {
                row[place] = p;
                allRows(place + 1, used | 1 << p);
            }
        }
    }

    private String text() {
        StringBuilder text = new StringBuilder("net " + n);
        char sign = ':';
        for (int a = 0; a < n; a++) {
            for (int b = a + 1; b < n; b++) {
                if (w[a][b] > 0) {
                    text.append(sign).append(a).append('-').append(b).append('=').append(w[a][b]);
                    sign = ',';
                }
            }
        }
        return text.append(';').toString();
    }

    private void compare(Check check) {
        String text = text();
        ThinRow x = Check.with(text);
        allRows(0, 0);
        for (int m = 0; m < 7; m++) {
            String of = " of " + m + " in " + text;
            check.due("least" + of, x.least(0, m), least[m]);
            check.due("ways" + of, x.ways(0, m), ways[m]);
            check.due("firsts" + of, x.firsts(0, m), firsts[m]);
            int digits = 0;
            for (int i = 0; i < n; i++) {
                digits = digits * 10 + x.best(0, m, i);
            }
            check.due("best" + of, digits, best[m]);
        }
        for (int m : new int[] {0, 1, 2, 5}) {
            int sum = 0;
            for (int v = 0; v < 60; v++) {
                sum += rowsOf[m][v];
                check.due("within " + v + " of " + m + " in " + text, x.within(0, m, v), sum);
            }
        }
        for (int first : LIMITED) {
            for (int second : new int[] {0, 1, 3, 4, 5, 6}) {
                check.due("among " + first + " " + second + " in " + text,
                        x.among(0, first, second), leastBy[first][second]);
            }
        }
    }

    private static int[][] randomNet(Random random, int n, int lines, int mostWeight) {
        int[][] w = new int[n][n];
        for (int come = 0; come < lines;) {
            int a = random.nextInt(n);
            int b = random.nextInt(n);
            if (a != b && w[a][b] == 0) {
                w[a][b] = w[b][a] = 1 + random.nextInt(mostWeight);
                come++;
            }
        }
        return w;
    }

    public static void main(String[] args) {
        int more = args.length > 0 ? Integer.parseInt(args[0]) : 1;
        Check check = new Check("BigNetTest");
        Random random = new Random(41L * more);
        for (int i = 0; i < 8 * more; i++) {
            int lines = random.nextInt(29);
            new BigNetTest(8, randomNet(random, 8, lines, 1 + i % 2 * 8)).compare(check);
        }
        for (int lines : new int[] {0, 1, 8, 12, 18, 30}) {
            for (int i = 0; i < more; i++) {
                new BigNetTest(9, randomNet(random, 9, lines, 1 + lines % 4 * 3)).compare(check);
            }
        }
        check.close();
    }
}
