import java.util.Arrays;

/** Rows of the points of a net, what they cut and what is the least over all of them: see DOC.md. */
public final class ThinRow {
    public static final int NONE = -1;

    private static final int REFUSED = -2;
    private static final int FAULTY = -4;
    private static final int FULL = -5;
    private static final int NO_LINE = -6;
    private static final int NO_GAIN = -1000;

    private static final int SLOT_COUNT = 3;
    private static final int MOST_POINTS = 9;
    private static final int MOST_LINES = 30;
    private static final int MOST_WEIGHT = 9;
    private static final int MOST_TAPE = 400;
    private static final int MOST_OUT = 256;
    private static final int MOST_UNDONE = 10;

    /** More than a measure or a weight can ever be. */
    private static final int ABOVE_ALL = 1 << 20;

    private static final int MEASURE_COUNT = 7;
    private static final int CUT = 0;
    private static final int GATE = 1;
    private static final int BAND = 2;
    private static final int LENGTH = 3;
    private static final int PROFILE = 4;
    private static final int WIDTH = 5;
    private static final int FILL = 6;

    private final Bytes tape;
    private final Bytes out;
    private final Reader reader;
    private final Net[] nets;
    private final Findings[] findings;
    private final SetSearch setSearch;
    private final BandSearch bandSearch;
    private final History history;
    private final Net kept;
    private final Net trial;

    public ThinRow() {
        tape = new Bytes(MOST_TAPE);
        out = new Bytes(MOST_OUT);
        reader = new Reader(tape);
        nets = new Net[SLOT_COUNT];
        findings = new Findings[SLOT_COUNT];
        for (int slot = 0; slot < SLOT_COUNT; slot++) {
            nets[slot] = new Net();
            findings[slot] = new Findings();
        }
        setSearch = new SetSearch();
        bandSearch = new BandSearch();
        history = new History();
        kept = new Net();
        trial = new Net();
    }

    // ---- the tape and what it tells

    public int feed(int a, int b, int c, int d, int e) {
        if (!tape.hasRoom(20)) {
            return NONE;
        }
        tape.putFour(a);
        tape.putFour(b);
        tape.putFour(c);
        tape.putFour(d);
        tape.putFour(e);
        return tape.size;
    }

    public int end(int n) {
        if (n < 0 || n > tape.size) {
            return NONE;
        }
        tape.size = n;
        return n;
    }

    public int told(int slot) {
        if (!isSlot(slot)) {
            return REFUSED;
        }
        boolean fine = reader.readAll();
        tape.size = 0;
        if (!fine) {
            return FAULTY;
        }
        Net net = nets[slot];
        kept.copyFrom(net);
        net.copyFrom(reader.draft);
        noteAct(slot);
        return net.lines;
    }

    public int fault(int what) {
        if (what == 0) {
            return reader.faultNumber;
        }
        return what == 1 ? reader.faultPlace : NONE;
    }

    public int count(int what) {
        switch (what) {
            case 0:
                return filledSlots();
            case 1:
                return history.held;
            case 2:
                return tape.size;
            case 3:
                return out.size;
            default:
                return NONE;
        }
    }

    // ---- the net

    public int look(int slot, int what) {
        Net net = netIn(slot);
        if (net == null) {
            return REFUSED;
        }
        switch (what) {
            case 0:
                return net.points;
            case 1:
                return net.lines;
            case 2:
                return Shape.wholeWeight(net);
            case 3:
                return Shape.mostLinesAtPoint(net);
            case 4:
                return Shape.partCount(net);
            case 5:
                return Shape.diameter(net);
            case 6:
                return Shape.core(net);
            default:
                return REFUSED;
        }
    }

    public int near(int slot, int point) {
        Net net = netIn(slot);
        return net == null || !net.has(point) ? REFUSED : net.nearBits[point];
    }

    public int line(int slot, int a, int b) {
        Net net = netIn(slot);
        return net == null || !net.has(a) || !net.has(b) ? REFUSED : net.weightOf(a, b);
    }

    public int far(int slot, int a, int b) {
        Net net = netIn(slot);
        return net == null || !net.has(a) || !net.has(b) ? REFUSED : Shape.distance(net, a, b);
    }

    // ---- the row

    public int row(int slot, int place) {
        Net net = netIn(slot);
        return net == null || !net.has(place) ? REFUSED : net.order[place];
    }

    public int place(int slot, int point) {
        Net net = netIn(slot);
        return net == null || !net.has(point) ? REFUSED : net.placeOf(point);
    }

    public int value(int slot, int measure) {
        Net net = netIn(slot);
        return net == null || !isMeasure(measure) ? REFUSED : Rows.measured(net, measure);
    }

    public int price(int slot, int measure, int i) {
        Net net = netIn(slot);
        if (net == null || !isPriced(measure)) {
            return REFUSED;
        }
        if (!net.has(i) || i < Prices.firstStep(measure)) {
            return REFUSED;
        }
        return Prices.atPlace(net, measure, i);
    }

    public int worst(int slot, int measure) {
        Net net = netIn(slot);
        if (net == null || !isPriced(measure)) {
            return REFUSED;
        }
        return net.has(Prices.firstStep(measure)) ? Rows.worstStep(net, measure) : REFUSED;
    }

    public int longest(int slot) {
        Net net = netIn(slot);
        return net == null ? REFUSED : Rows.longestLine(net);
    }

    // ---- the least over all rows

    public int least(int slot, int measure) {
        Finding found = findingOf(slot, measure);
        return found == null ? REFUSED : found.leastValue;
    }

    public int best(int slot, int measure, int place) {
        Finding found = findingOf(slot, measure);
        return found == null || !nets[slot].has(place) ? REFUSED : found.firstRow[place];
    }

    public int ways(int slot, int measure) {
        Finding found = findingOf(slot, measure);
        return found == null ? REFUSED : found.rowCount;
    }

    public int within(int slot, int measure, int v) {
        Net net = netIn(slot);
        if (net == null || !isBounded(measure) || v < 0) {
            return REFUSED;
        }
        return measure == BAND
                ? bandSearch.rowsWithin(net, v) : setSearch.rowsWithin(net, measure, v);
    }

    public int firsts(int slot, int measure) {
        Finding found = findingOf(slot, measure);
        return found == null ? REFUSED : found.firstPoints;
    }

    public int bound(int slot, int measure, int what) {
        Net net = netIn(slot);
        if (net == null || !isBounded(measure)) {
            return REFUSED;
        }
        if (what == 1 && measure == BAND) {
            return Shape.ballBound(net);
        }
        return what == 0 ? Shape.lineBound(net, measure) : REFUSED;
    }

    public int minor(int slot) {
        Net net = netIn(slot);
        if (net == null) {
            return REFUSED;
        }
        trial.copyFrom(net);
        return Shape.shrinkAway(trial);
    }

    public int among(int slot, int first, int second) {
        Finding found = findingOf(slot, first);
        if (found == null || !isBounded(first) || first == BAND || !isPriced(second)) {
            return REFUSED;
        }
        return setSearch.leastWhere(nets[slot], second, first, found.leastValue);
    }

    // ---- sets and bags

    public int split(int slot, int set, int what) {
        Net net = netIn(slot);
        if (net == null || set < 0 || set > net.allBits()) {
            return REFUSED;
        }
        switch (what) {
            case 0:
                return Prices.cutWeight(net, set);
            case 1:
                return Prices.gateSize(net, set);
            case 2:
                return Prices.fringeSize(net, set);
            default:
                return REFUSED;
        }
    }

    public int halve(int slot) {
        Net net = netIn(slot);
        return net == null ? REFUSED : Shape.thinnestHalf(net);
    }

    public int bag(int slot, int what, int place) {
        Net net = netIn(slot);
        if (net == null || !net.has(place)) {
            return REFUSED;
        }
        if (what == 0) {
            return Rows.bagGoing(net, place);
        }
        return what == 1 ? Rows.bagTaken(net, place) : REFUSED;
    }

    public int filled(int slot, int k) {
        Net net = netIn(slot);
        return net == null || k < NONE ? REFUSED : Rows.newLine(net, k);
    }

    // ---- other rows

    public int gain(int slot, int measure, int i, int j) {
        Net net = netIn(slot);
        if (net == null || !isMeasure(measure) || !net.has(i) || !net.has(j)) {
            return NO_GAIN;
        }
        trial.copyFrom(net);
        trial.changeOver(i, j);
        return Rows.measured(trial, measure) - Rows.measured(net, measure);
    }

    public int swaps(int slot, int i, int j) {
        Net net = netIn(slot);
        if (net == null || !net.has(i) || !net.has(j)) {
            return REFUSED;
        }
        kept.copyFrom(net);
        net.changeOver(i, j);
        noteAct(slot);
        return kept.order[i];
    }

    public int moves(int slot, int from, int to) {
        Net net = netIn(slot);
        if (net == null || !net.has(from) || !net.has(to)) {
            return REFUSED;
        }
        kept.copyFrom(net);
        net.shift(from, to);
        noteAct(slot);
        return kept.order[from];
    }

    public int reverse(int slot) {
        Net net = netIn(slot);
        if (net == null) {
            return REFUSED;
        }
        kept.copyFrom(net);
        net.turnRound();
        noteAct(slot);
        return net.order[0];
    }

    public int takes(int slot, int measure) {
        Finding found = findingOf(slot, measure);
        if (found == null) {
            return REFUSED;
        }
        Net net = nets[slot];
        kept.copyFrom(net);
        System.arraycopy(found.firstRow, 0, net.order, 0, MOST_POINTS);
        noteAct(slot);
        return net.placesUnlike(kept);
    }

    public int polish(int slot, int measure) {
        Net net = netIn(slot);
        if (net == null || !isMeasure(measure)) {
            return REFUSED;
        }
        kept.copyFrom(net);
        int times = Rows.polishRow(net, measure);
        noteAct(slot);
        return times;
    }

    public int polished(int slot, int measure) {
        Net net = netIn(slot);
        if (net == null || !isMeasure(measure)) {
            return REFUSED;
        }
        trial.copyFrom(net);
        Rows.polishRow(trial, measure);
        return Rows.measured(trial, measure);
    }

    public int greedy(int slot, int measure) {
        Net net = netIn(slot);
        if (net == null || !isPriced(measure)) {
            return REFUSED;
        }
        kept.copyFrom(net);
        Rows.makeGreedy(net, measure);
        noteAct(slot);
        return Rows.measured(net, measure);
    }

    public int layers(int slot, int point) {
        Net net = netIn(slot);
        if (net == null || !net.has(point)) {
            return REFUSED;
        }
        kept.copyFrom(net);
        Rows.makeLayers(net, point);
        noteAct(slot);
        return net.placesUnlike(kept);
    }

    // ---- other nets

    public int adds(int slot, int a, int b, int weight) {
        Net net = netIn(slot);
        if (net == null || !net.hasTwo(a, b) || weight < 1 || weight > MOST_WEIGHT) {
            return REFUSED;
        }
        int old = net.weightOf(a, b);
        if (old == 0 && net.lines >= MOST_LINES) {
            return FULL;
        }
        kept.copyFrom(net);
        net.setWeight(a, b, weight);
        noteAct(slot);
        return old;
    }

    public int cuts(int slot, int a, int b) {
        Net net = netIn(slot);
        if (net == null || !net.hasTwo(a, b)) {
            return REFUSED;
        }
        int old = net.weightOf(a, b);
        if (old == 0) {
            return NO_LINE;
        }
        kept.copyFrom(net);
        net.setWeight(a, b, 0);
        noteAct(slot);
        return old;
    }

    public int merges(int slot, int a, int b) {
        Net net = netIn(slot);
        if (net == null || !net.hasTwo(a, b)) {
            return REFUSED;
        }
        if (net.weightOf(a, b) == 0) {
            return NO_LINE;
        }
        kept.copyFrom(net);
        net.drawTogether(a, b);
        noteAct(slot);
        return net.points;
    }

    public int drops(int slot) {
        if (!isSlot(slot)) {
            return REFUSED;
        }
        Net net = nets[slot];
        if (net.points == 0) {
            return 0;
        }
        kept.copyFrom(net);
        net.begin(0);
        noteAct(slot);
        return 1;
    }

    public int undo() {
        if (history.held == 0) {
            return NONE;
        }
        history.takeBack(nets);
        return history.held;
    }

    // ---- what is told

    public int tell(int slot, int what) {
        Net net = netIn(slot);
        if (net == null || what < 0 || what > 1) {
            return REFUSED;
        }
        out.size = 0;
        if (what == 0) {
            tellNet(net);
            tellRow(net);
        } else {
            tellCuts(net);
        }
        return out.size;
    }

    public int octet(int i) {
        return out.at(i);
    }

    private void tellNet(Net net) {
        out.putText("net ");
        out.putNumber(net.points);
        char ahead = ':';
        for (int a = 0; a < net.points; a++) {
            for (int b = a + 1; b < net.points; b++) {
                int weight = net.weightOf(a, b);
                if (weight > 0) {
                    out.put(ahead);
                    tellLine(a, b, weight);
                    ahead = ',';
                }
            }
        }
        out.put(';');
    }

    private void tellLine(int a, int b, int weight) {
        out.putNumber(a);
        out.put('-');
        out.putNumber(b);
        if (weight != 1) {
            out.put('=');
            out.putNumber(weight);
        }
    }

    private void tellRow(Net net) {
        out.putText("row ");
        for (int i = 0; i < net.points; i++) {
            out.putNumber(net.order[i]);
        }
        out.put(';');
    }

    private void tellCuts(Net net) {
        for (int i = 1; i < net.points; i++) {
            if (i > 1) {
                out.put(' ');
            }
            out.putNumber(Prices.atPlace(net, CUT, i));
        }
    }

    // ---- what the calls share

    private static boolean isSlot(int slot) {
        return slot >= 0 && slot < SLOT_COUNT;
    }

    private static boolean isMeasure(int measure) {
        return measure >= 0 && measure < MEASURE_COUNT;
    }

    private static boolean isPriced(int measure) {
        return isMeasure(measure) && measure != BAND;
    }

    private static boolean isBounded(int measure) {
        return measure == CUT || measure == GATE || measure == BAND || measure == WIDTH;
    }

    private Net netIn(int slot) {
        return isSlot(slot) && nets[slot].points > 0 ? nets[slot] : null;
    }

    private int filledSlots() {
        int bits = 0;
        for (int slot = 0; slot < SLOT_COUNT; slot++) {
            if (nets[slot].points > 0) {
                bits |= 1 << slot;
            }
        }
        return bits;
    }

    /** Only what made the slot otherwise is an act: "kept" is the slot as it was. */
    private void noteAct(int slot) {
        if (!kept.sameAs(nets[slot])) {
            history.remember(slot, kept);
        }
    }

    private Finding findingOf(int slot, int measure) {
        Net net = netIn(slot);
        if (net == null || !isMeasure(measure)) {
            return null;
        }
        findings[slot].turnTo(net);
        Finding found = findings[slot].ofMeasure[measure];
        if (!found.known) {
            if (measure == BAND) {
                bandSearch.find(net, found);
            } else {
                setSearch.find(net, measure, found);
            }
            found.known = true;
        }
        return found;
    }

    /** Bytes behind one another: the tape, and what is told. */
    private static final class Bytes {
        private final byte[] held;
        int size;

        Bytes(int most) {
            held = new byte[Math.max(0, most)];
        }

        boolean hasRoom(int more) {
            return size + more <= held.length;
        }

        void put(int octet) {
            if (hasRoom(1)) {
                held[size] = (byte) octet;
                size++;
            }
        }

        void putFour(int number) {
            put(number >>> 24);
            put(number >>> 16);
            put(number >>> 8);
            put(number);
        }

        void putText(String text) {
            for (int i = 0; i < text.length(); i++) {
                put(text.charAt(i));
            }
        }

        /** Numbers below 1000: the greatest that is told is the weight of 30 lines. */
        void putNumber(int number) {
            if (number >= 100) {
                put('0' + number / 100 % 10);
            }
            if (number >= 10) {
                put('0' + number / 10 % 10);
            }
            put('0' + number % 10);
        }

        int at(int i) {
            return i >= 0 && i < size ? held[i] & 255 : NONE;
        }
    }

    /** What a slot holds: a net and a row of its points; without points it holds nothing. */
    private static final class Net {
        int points;
        int lines;
        final int[] nearBits = new int[MOST_POINTS];
        final int[] order = new int[MOST_POINTS];
        private final int[] weights = new int[MOST_POINTS * MOST_POINTS];

        void begin(int count) {
            points = count;
            lines = 0;
            Arrays.fill(nearBits, 0);
            Arrays.fill(weights, 0);
            for (int i = 0; i < MOST_POINTS; i++) {
                order[i] = i;
            }
        }

        void copyFrom(Net other) {
            points = other.points;
            lines = other.lines;
            System.arraycopy(other.nearBits, 0, nearBits, 0, MOST_POINTS);
            System.arraycopy(other.order, 0, order, 0, MOST_POINTS);
            System.arraycopy(other.weights, 0, weights, 0, MOST_POINTS * MOST_POINTS);
        }

        boolean sameLines(Net other) {
            if (points != other.points || lines != other.lines) {
                return false;
            }
            for (int a = 0; a < points; a++) {
                for (int b = 0; b < a; b++) {
                    if (weightOf(a, b) != other.weightOf(a, b)) {
                        return false;
                    }
                }
            }
            return true;
        }

        boolean sameAs(Net other) {
            return sameLines(other) && placesUnlike(other) == 0;
        }

        int placesUnlike(Net other) {
            int unlike = 0;
            for (int i = 0; i < points; i++) {
                if (order[i] != other.order[i]) {
                    unlike++;
                }
            }
            return unlike;
        }

        /** Points and places have the same numbers. */
        boolean has(int number) {
            return number >= 0 && number < points;
        }

        boolean hasTwo(int a, int b) {
            return has(a) && has(b) && a != b;
        }

        int allBits() {
            return (1 << points) - 1;
        }

        int lineCount(int point) {
            return Integer.bitCount(nearBits[point]);
        }

        int weightOf(int a, int b) {
            return weights[a * MOST_POINTS + b];
        }

        void setWeight(int a, int b, int weight) {
            if (weightOf(a, b) > 0) {
                lines--;
            }
            weights[a * MOST_POINTS + b] = weight;
            weights[b * MOST_POINTS + a] = weight;
            if (weight > 0) {
                lines++;
                nearBits[a] |= 1 << b;
                nearBits[b] |= 1 << a;
            } else {
                nearBits[a] &= ~(1 << b);
                nearBits[b] &= ~(1 << a);
            }
        }

        int placeOf(int point) {
            for (int i = 0; i < points; i++) {
                if (order[i] == point) {
                    return i;
                }
            }
            return NONE;
        }

        int aheadOf(int place) {
            int bits = 0;
            for (int i = 0; i < place; i++) {
                bits |= 1 << order[i];
            }
            return bits;
        }

        void changeOver(int i, int j) {
            int point = order[i];
            order[i] = order[j];
            order[j] = point;
        }

        void shift(int from, int to) {
            for (int i = from; i < to; i++) {
                changeOver(i, i + 1);
            }
            for (int i = from; i > to; i--) {
                changeOver(i, i - 1);
            }
        }

        void turnRound() {
            for (int i = 0; i < points - 1 - i; i++) {
                changeOver(i, points - 1 - i);
            }
        }

        void drawTogether(int a, int b) {
            int stays = Math.min(a, b);
            int goes = Math.max(a, b);
            for (int p = 0; p < points; p++) {
                if (p != stays && p != goes && weightOf(goes, p) > 0) {
                    int both = weightOf(stays, p) + weightOf(goes, p);
                    setWeight(stays, p, Math.min(MOST_WEIGHT, both));
                }
            }
            takeOut(goes);
        }

        /** Greater numbers become one less; pairs are gone through so that each is read unchanged. */
        void takeOut(int gone) {
            int last = points - 1;
            for (int a = 0; a < last; a++) {
                for (int b = a + 1; b < last; b++) {
                    setWeight(a, b, weightOf(a < gone ? a : a + 1, b < gone ? b : b + 1));
                }
            }
            for (int a = 0; a < last; a++) {
                setWeight(a, last, 0);
            }
            takeFromRow(gone);
            points = last;
        }

        private void takeFromRow(int gone) {
            int filled = 0;
            for (int i = 0; i < points; i++) {
                int point = order[i];
                if (point != gone) {
                    order[filled] = point < gone ? point : point - 1;
                    filled++;
                }
            }
        }
    }

    /** Reads the tape as a text; what it tells is in the draft, if there was no fault. */
    private static final class Reader {
        private static final int END = 0;
        private static final int WORD = 1;
        private static final int NUMBER = 2;
        private static final int SIGN = 3;

        private static final int BAD_TOKEN = 1;
        private static final int BAD_NUMBER = 2;
        private static final int LINE_AGAIN = 3;
        private static final int LINE_TOO_MANY = 4;
        private static final int BAD_DIGITS = 5;

        private static final int GREAT_NUMBER = 1000;

        final Net draft = new Net();
        int faultNumber;
        int faultPlace = NONE;
        private final Bytes source;
        private int kind;
        private int start;
        private int behind;
        private int number;

        Reader(Bytes tape) {
            source = tape;
        }

        boolean readAll() {
            faultNumber = 0;
            faultPlace = NONE;
            behind = 0;
            step();
            return readHead() && readLines() && readRow();
        }

        private boolean readHead() {
            if (!isWord("net")) {
                return blame(BAD_TOKEN);
            }
            step();
            if (!isNumberFrom(1, MOST_POINTS)) {
                return false;
            }
            draft.begin(number);
            step();
            return true;
        }

        private boolean readLines() {
            boolean more = isSign(':');
            for (int told = 0; more && told <= MOST_LINES; told++) {
                step();
                if (!readLine()) {
                    return false;
                }
                more = isSign(',');
            }
            return takeSign(';');
        }

        private boolean readLine() {
            if (!isPoint()) {
                return false;
            }
            if (draft.lines >= MOST_LINES) {
                return blame(LINE_TOO_MANY);
            }
            int a = number;
            step();
            if (!takeSign('-') || !isPoint()) {
                return false;
            }
            int b = number;
            if (a == b) {
                return blame(BAD_NUMBER);
            }
            if (draft.weightOf(a, b) > 0) {
                return blame(LINE_AGAIN);
            }
            step();
            return readWeight(a, b);
        }

        private boolean readWeight(int a, int b) {
            int weight = 1;
            if (isSign('=')) {
                step();
                if (!isNumberFrom(1, MOST_WEIGHT)) {
                    return false;
                }
                weight = number;
                step();
            }
            draft.setWeight(a, b, weight);
            return true;
        }

        private boolean readRow() {
            if (kind == END) {
                return true;
            }
            if (!isWord("row")) {
                return blame(BAD_TOKEN);
            }
            step();
            if (kind != NUMBER) {
                return blame(BAD_TOKEN);
            }
            if (!readDigits()) {
                return blame(BAD_DIGITS);
            }
            step();
            return takeSign(';') && (kind == END || blame(BAD_TOKEN));
        }

        private boolean readDigits() {
            if (behind - start != draft.points) {
                return false;
            }
            int seen = 0;
            for (int i = 0; i < draft.points; i++) {
                int point = source.at(start + i) - '0';
                if (!draft.has(point)) {
                    return false;
                }
                draft.order[i] = point;
                seen |= 1 << point;
            }
            return seen == draft.allBits();
        }

        private boolean isPoint() {
            return isNumberFrom(0, draft.points - 1);
        }

        private boolean isNumberFrom(int low, int high) {
            if (kind != NUMBER) {
                return blame(BAD_TOKEN);
            }
            number = 0;
            for (int i = start; i < behind; i++) {
                number = Math.min(GREAT_NUMBER, number * 10 + source.at(i) - '0');
            }
            return number >= low && number <= high || blame(BAD_NUMBER);
        }

        private boolean takeSign(char sign) {
            if (!isSign(sign)) {
                return blame(BAD_TOKEN);
            }
            step();
            return true;
        }

        private boolean isSign(char sign) {
            return kind == SIGN && source.at(start) == sign;
        }

        private boolean isWord(String word) {
            if (kind != WORD || behind - start != word.length()) {
                return false;
            }
            for (int i = 0; i < word.length(); i++) {
                if (source.at(start + i) != word.charAt(i)) {
                    return false;
                }
            }
            return true;
        }

        private boolean blame(int what) {
            faultNumber = what;
            faultPlace = start;
            return false;
        }

        /** To the next token: the end is one, too, whose first byte is behind all bytes. */
        private void step() {
            start = behind;
            while (start < source.size && isBlank(source.at(start))) {
                start++;
            }
            kind = kindOf(source.at(start));
            behind = kind == END ? start : start + 1;
            if (kind == WORD || kind == NUMBER) {
                while (behind < source.size && kindOf(source.at(behind)) == kind) {
                    behind++;
                }
            }
        }

        private static int kindOf(int octet) {
            if (octet == NONE) {
                return END;
            }
            if (octet >= 'a' && octet <= 'z') {
                return WORD;
            }
            return octet >= '0' && octet <= '9' ? NUMBER : SIGN;
        }

        private static boolean isBlank(int octet) {
            return octet == 32 || octet == 10;
        }
    }

    /** What a step of a row costs: in which order those ahead came is never asked. */
    private static final class Prices {
        static boolean isTakenOut(int measure) {
            return measure == WIDTH || measure == FILL;
        }

        static int firstStep(int measure) {
            return isTakenOut(measure) ? 0 : 1;
        }

        static int joined(int measure, int soFar, int price) {
            boolean summed = measure == LENGTH || measure == PROFILE || measure == FILL;
            return summed ? soFar + price : Math.max(soFar, price);
        }

        static int atPlace(Net net, int measure, int place) {
            return of(net, measure, net.aheadOf(place), net.order[place]);
        }

        /** Those ahead at the step by which a point goes behind some. */
        static int aheadAtStep(int measure, int some, int point) {
            return isTakenOut(measure) ? some : some | 1 << point;
        }

        /** The point is asked for only where points are taken out; all points ahead cost nothing. */
        static int of(Net net, int measure, int ahead, int point) {
            switch (measure) {
                case GATE:
                    return gateSize(net, ahead);
                case PROFILE:
                    return fringeSize(net, ahead);
                case WIDTH:
                    return Integer.bitCount(neighbours(net, ahead, point));
                case FILL:
                    return newLines(net, ahead, point);
                default:
                    return cutWeight(net, ahead);
            }
        }

        static int cutWeight(Net net, int set) {
            int weight = 0;
            for (int a = 0; a < net.points; a++) {
                int outside = net.nearBits[a] & ~set;
                if ((set >> a & 1) == 0 || outside == 0) {
                    continue;
                }
                for (int b = 0; b < net.points; b++) {
                    if ((outside >> b & 1) != 0) {
                        weight += net.weightOf(a, b);
                    }
                }
            }
            return weight;
        }

        static int gateSize(Net net, int set) {
            return Integer.bitCount(withLineInto(net, set, ~set));
        }

        static int fringeSize(Net net, int set) {
            return Integer.bitCount(withLineInto(net, ~set, set));
        }

        /** Those of some points that have a line with one of others. */
        static int withLineInto(Net net, int some, int others) {
            int bits = 0;
            for (int p = 0; p < net.points; p++) {
                if ((some >> p & 1) != 0 && (net.nearBits[p] & others) != 0) {
                    bits |= 1 << p;
                }
            }
            return bits;
        }

        static int neighbours(Net net, int ahead, int point) {
            int reached = net.nearBits[point];
            int gone = 0;
            for (int round = 0; round < net.points; round++) {
                int wave = reached & ahead & ~gone;
                if (wave == 0) {
                    break;
                }
                gone |= wave;
                for (int p = 0; p < net.points; p++) {
                    if ((wave >> p & 1) != 0) {
                        reached |= net.nearBits[p];
                    }
                }
            }
            return reached & ~ahead & ~(1 << point);
        }

        private static int newLines(Net net, int ahead, int point) {
            int around = neighbours(net, ahead, point);
            int lines = 0;
            for (int a = 0; a < net.points; a++) {
                int greater = (around >> a & 1) == 0 ? 0 : aboveOf(around, a);
                if (greater != 0) {
                    lines += Integer.bitCount(greater & ~neighbours(net, ahead, a));
                }
            }
            return lines;
        }

        static int aboveOf(int set, int point) {
            return set & -(2 << point);
        }
    }

    /** What a net has whatever its row is, and bounds that need no search. */
    private static final class Shape {
        static int wholeWeight(Net net) {
            int weight = 0;
            for (int p = 0; p < net.points; p++) {
                weight += weightAt(net, p);
            }
            return weight / 2;
        }

        private static int weightAt(Net net, int point) {
            int weight = 0;
            for (int p = 0; p < net.points; p++) {
                weight += net.weightOf(point, p);
            }
            return weight;
        }

        private static int mostWeightAtPoint(Net net) {
            int most = 0;
            for (int p = 0; p < net.points; p++) {
                most = Math.max(most, weightAt(net, p));
            }
            return most;
        }

        static int mostLinesAtPoint(Net net) {
            int most = 0;
            for (int p = 0; p < net.points; p++) {
                most = Math.max(most, net.lineCount(p));
            }
            return most;
        }

        /** A set and all that have a line with one of it. */
        static int grown(Net net, int set) {
            int bits = set;
            for (int p = 0; p < net.points; p++) {
                if ((set >> p & 1) != 0) {
                    bits |= net.nearBits[p];
                }
            }
            return bits;
        }

        static int distance(Net net, int a, int b) {
            int reached = 1 << a;
            for (int lines = 0; lines < net.points; lines++) {
                if ((reached >> b & 1) != 0) {
                    return lines;
                }
                reached = grown(net, reached);
            }
            return NONE;
        }

        static int partCount(Net net) {
            int parts = 0;
            int seen = 0;
            for (int p = 0; p < net.points; p++) {
                if ((seen >> p & 1) == 0) {
                    parts++;
                    seen |= partOf(net, p);
                }
            }
            return parts;
        }

        private static int partOf(Net net, int point) {
            int reached = 1 << point;
            for (int lines = 1; lines < net.points; lines++) {
                reached = grown(net, reached);
            }
            return reached;
        }

        static int diameter(Net net) {
            int most = 0;
            for (int a = 0; a < net.points; a++) {
                for (int b = 0; b < a; b++) {
                    int between = distance(net, a, b);
                    if (between == NONE) {
                        return NONE;
                    }
                    most = Math.max(most, between);
                }
            }
            return most;
        }

        /** Taking away a point with the fewest lines time and again: the most that such a one had. */
        static int core(Net net) {
            int left = net.allBits();
            int most = 0;
            for (int taken = 0; taken < net.points; taken++) {
                int fewest = fewestLines(net, left, left);
                if (fewest == NONE) {
                    return most;
                }
                most = Math.max(most, Integer.bitCount(net.nearBits[fewest] & left));
                left &= ~(1 << fewest);
            }
            return most;
        }

        /** The least point of some that has the fewest lines with those that are left. */
        private static int fewestLines(Net net, int some, int left) {
            int fewest = NONE;
            int lines = MOST_POINTS;
            for (int p = 0; p < net.points; p++) {
                int had = Integer.bitCount(net.nearBits[p] & left);
                if ((some >> p & 1) != 0 && had < lines) {
                    fewest = p;
                    lines = had;
                }
            }
            return fewest;
        }

        static int lineBound(Net net, int measure) {
            if (measure == CUT) {
                return (mostWeightAtPoint(net) + 1) / 2;
            }
            return measure == BAND ? (mostLinesAtPoint(net) + 1) / 2 : core(net);
        }

        static int ballBound(Net net) {
            int most = 0;
            for (int p = 0; p < net.points; p++) {
                int ball = 1 << p;
                for (int r = 1; r < net.points; r++) {
                    ball = grown(net, ball);
                    int others = Integer.bitCount(ball) - 1;
                    most = Math.max(most, (others + 2 * r - 1) / (2 * r));
                }
            }
            return most;
        }

        /** MINOR; the net that is given is used up. */
        static int shrinkAway(Net net) {
            int most = 0;
            int count = net.points;
            for (int taken = 0; taken < count; taken++) {
                int all = net.allBits();
                int point = fewestLines(net, all, all);
                if (point == NONE) {
                    return most;
                }
                most = Math.max(most, net.lineCount(point));
                int other = fewestLines(net, net.nearBits[point], all);
                if (other == NONE) {
                    net.takeOut(point);
                } else {
                    net.drawTogether(point, other);
                }
            }
            return most;
        }

        static int thinnestHalf(Net net) {
            int best = 0;
            int least = ABOVE_ALL;
            for (int set = 0; set <= net.allBits(); set++) {
                if (Integer.bitCount(set) == net.points / 2) {
                    int weight = Prices.cutWeight(net, set);
                    if (weight < least) {
                        least = weight;
                        best = set;
                    }
                }
            }
            return best;
        }
    }

    /** What the row of a net has, and rows that are made from it. */
    private static final class Rows {
        /** Each polishing makes the measure less; the greatest length is 8 times 30 times 9. */
        private static final int MOST_POLISHINGS = 4000;

        static int measured(Net net, int measure) {
            if (measure == BAND) {
                return widestBand(net);
            }
            int whole = 0;
            int ahead = 0;
            for (int i = 0; i < net.points; i++) {
                int point = net.order[i];
                int set = Prices.aheadAtStep(measure, ahead, point);
                whole = Prices.joined(measure, whole, Prices.of(net, measure, set, point));
                ahead |= 1 << point;
            }
            return whole;
        }

        private static int widestBand(Net net) {
            int most = 0;
            for (int i = 0; i < net.points; i++) {
                for (int j = i + 1; j < net.points; j++) {
                    if (net.weightOf(net.order[i], net.order[j]) > 0) {
                        most = Math.max(most, j - i);
                    }
                }
            }
            return most;
        }

        static int worstStep(Net net, int measure) {
            int worst = NONE;
            int most = NONE;
            for (int i = Prices.firstStep(measure); i < net.points; i++) {
                int price = Prices.atPlace(net, measure, i);
                if (price > most) {
                    most = price;
                    worst = i;
                }
            }
            return worst;
        }

        static int longestLine(Net net) {
            int longest = NONE;
            int most = 0;
            for (int a = 0; a < net.points; a++) {
                for (int b = a + 1; b < net.points; b++) {
                    int apart = Math.abs(net.placeOf(a) - net.placeOf(b));
                    if (net.weightOf(a, b) > 0 && apart > most) {
                        most = apart;
                        longest = 10 * a + b;
                    }
                }
            }
            return longest;
        }

        static int bagGoing(Net net, int place) {
            int ahead = net.aheadOf(place);
            return 1 << net.order[place] | Prices.withLineInto(net, ahead, ~ahead);
        }

        static int bagTaken(Net net, int place) {
            int point = net.order[place];
            return 1 << point | Prices.neighbours(net, net.aheadOf(place), point);
        }

        /** The k-th new line as points are taken out; with k NONE how many come. */
        static int newLine(Net net, int k) {
            int ahead = 0;
            int came = 0;
            for (int i = 0; i < net.points; i++) {
                int point = net.order[i];
                int around = Prices.neighbours(net, ahead, point);
                for (int a = 0; a < net.points; a++) {
                    int ends = (around >> a & 1) == 0 ? 0
                            : Prices.aboveOf(around, a) & ~Prices.neighbours(net, ahead, a);
                    int more = Integer.bitCount(ends);
                    if (k >= came && k < came + more) {
                        return 10 * a + bitAt(ends, k - came);
                    }
                    came += more;
                }
                ahead |= 1 << point;
            }
            return k == NONE ? came : NONE;
        }

        /** The point that is the k-th one of a set. */
        private static int bitAt(int set, int k) {
            int seen = 0;
            for (int p = 0; p < MOST_POINTS; p++) {
                if ((set >> p & 1) != 0) {
                    if (seen == k) {
                        return p;
                    }
                    seen++;
                }
            }
            return NONE;
        }

        static int polishRow(Net net, int measure) {
            for (int times = 0; times < MOST_POLISHINGS; times++) {
                if (!changeBestTwo(net, measure)) {
                    return times;
                }
            }
            return MOST_POLISHINGS;
        }

        private static boolean changeBestTwo(Net net, int measure) {
            int least = measured(net, measure);
            int first = NONE;
            int second = NONE;
            for (int i = 0; i < net.points; i++) {
                for (int j = i + 1; j < net.points; j++) {
                    net.changeOver(i, j);
                    int changed = measured(net, measure);
                    net.changeOver(i, j);
                    if (changed < least) {
                        least = changed;
                        first = i;
                        second = j;
                    }
                }
            }
            if (first == NONE) {
                return false;
            }
            net.changeOver(first, second);
            return true;
        }

        static void makeGreedy(Net net, int measure) {
            int ahead = 0;
            for (int i = 0; i < net.points; i++) {
                int chosen = NONE;
                int least = ABOVE_ALL;
                for (int p = 0; p < net.points; p++) {
                    if ((ahead >> p & 1) == 0) {
                        int set = Prices.aheadAtStep(measure, ahead, p);
                        int price = Prices.of(net, measure, set, p);
                        if (price < least) {
                            least = price;
                            chosen = p;
                        }
                    }
                }
                net.order[i] = chosen;
                ahead |= 1 << chosen;
            }
        }

        static void makeLayers(Net net, int point) {
            int filled = 0;
            int reached = 0;
            int wave = 1 << point;
            for (int lines = 0; lines < net.points; lines++) {
                filled = putInRow(net, filled, wave & ~reached);
                reached |= wave;
                wave = Shape.grown(net, reached);
            }
            putInRow(net, filled, net.allBits() & ~reached);
        }

        private static int putInRow(Net net, int filled, int set) {
            int next = filled;
            for (int p = 0; p < net.points; p++) {
                if ((set >> p & 1) != 0 && next < net.points) {
                    net.order[next] = p;
                    next++;
                }
            }
            return next;
        }
    }

    /** What is known of one measure over all rows. */
    private static final class Finding {
        boolean known;
        int leastValue;
        int rowCount;
        int firstPoints;
        final int[] firstRow = new int[MOST_POINTS];
    }

    /** What is known of one slot's net: kept while its lines stay, as best() asks for each place. */
    private static final class Findings {
        final Finding[] ofMeasure = new Finding[MEASURE_COUNT];
        private final Net about = new Net();

        Findings() {
            for (int measure = 0; measure < MEASURE_COUNT; measure++) {
                ofMeasure[measure] = new Finding();
            }
        }

        void turnTo(Net net) {
            if (about.sameLines(net)) {
                return;
            }
            about.copyFrom(net);
            for (int measure = 0; measure < MEASURE_COUNT; measure++) {
                ofMeasure[measure].known = false;
            }
        }
    }

    /** Over all rows, by sets of those ahead: a price does not ask in which order they came. */
    private static final class SetSearch {
        private static final int SETS = 1 << MOST_POINTS;

        private final int[] steps = new int[SETS * MOST_POINTS];
        private final int[] guards = new int[SETS * MOST_POINTS];
        private final int[] around = new int[SETS * MOST_POINTS];
        private final int[] rest = new int[SETS];
        private final int[] rows = new int[SETS];

        void find(Net net, int measure, Finding found) {
            fillSteps(net, measure, steps);
            fillRest(net, measure, steps, ABOVE_ALL);
            found.leastValue = rest[0];
            countRows(net, measure, rest[0]);
            found.rowCount = rows[0];
            found.firstPoints = leadersFrom(net, measure, 0, rest[0]);
            int ahead = 0;
            for (int i = 0; i < net.points; i++) {
                int point = lowest(leadersFrom(net, measure, ahead, rest[0]));
                found.firstRow[i] = point;
                ahead |= 1 << point;
            }
        }

        int rowsWithin(Net net, int measure, int limit) {
            fillSteps(net, measure, steps);
            countRows(net, measure, limit);
            return rows[0];
        }

        int leastWhere(Net net, int measure, int guard, int limit) {
            fillSteps(net, guard, guards);
            fillSteps(net, measure, steps);
            fillRest(net, measure, guards, limit);
            return rest[0];
        }

        private void fillSteps(Net net, int measure, int[] target) {
            if (Prices.isTakenOut(measure)) {
                fillTakings(net, measure, target);
                return;
            }
            for (int set = 0; set <= net.allBits(); set++) {
                int price = Prices.of(net, measure, set, NONE);
                for (int p = 0; p < net.points; p++) {
                    if ((set >> p & 1) != 0) {
                        target[(set ^ 1 << p) * MOST_POINTS + p] = price;
                    }
                }
            }
        }

        private void fillTakings(Net net, int measure, int[] target) {
            fillAround(net);
            for (int set = 0; set <= net.allBits(); set++) {
                for (int p = 0; p < net.points; p++) {
                    if ((set >> p & 1) == 0) {
                        int mine = around[set * MOST_POINTS + p];
                        target[set * MOST_POINTS + p] = measure == WIDTH
                                ? Integer.bitCount(mine) : newLines(net, set, mine);
                    }
                }
            }
        }

        private int newLines(Net net, int set, int mine) {
            int lines = 0;
            for (int a = 0; a < net.points; a++) {
                if ((mine >> a & 1) != 0) {
                    int greater = Prices.aboveOf(mine, a);
                    lines += Integer.bitCount(greater & ~around[set * MOST_POINTS + a]);
                }
            }
            return lines;
        }

        /** Neighbours of each point outside each set: as its least point is taken out last. */
        private void fillAround(Net net) {
            for (int p = 0; p < net.points; p++) {
                around[p] = net.nearBits[p];
            }
            for (int set = 1; set <= net.allBits(); set++) {
                int last = lowest(set);
                int before = (set & set - 1) * MOST_POINTS;
                for (int p = 0; p < net.points; p++) {
                    if ((set >> p & 1) == 0) {
                        int bits = around[before + p];
                        if ((bits >> last & 1) != 0) {
                            bits = (bits | around[before + last]) & ~(1 << p | 1 << last);
                        }
                        around[set * MOST_POINTS + p] = bits;
                    }
                }
            }
        }

        /** The least of the measure from each set on, over steps that a limit lets through. */
        private void fillRest(Net net, int measure, int[] limited, int limit) {
            int all = net.allBits();
            rest[all] = 0;
            for (int set = all - 1; set >= 0; set--) {
                int least = ABOVE_ALL;
                for (int p = 0; p < net.points; p++) {
                    int at = set * MOST_POINTS + p;
                    if ((set >> p & 1) == 0 && limited[at] <= limit) {
                        int on = rest[set | 1 << p];
                        least = Math.min(least, Prices.joined(measure, on, steps[at]));
                    }
                }
                rest[set] = least;
            }
        }

        private void countRows(Net net, int measure, int limit) {
            int all = net.allBits();
            rows[all] = 1;
            for (int set = all - 1; set >= 0; set--) {
                int sum = 0;
                for (int p = 0; p < net.points; p++) {
                    if ((set >> p & 1) == 0 && fits(measure, set, p, limit)) {
                        sum += rows[set | 1 << p];
                    }
                }
                rows[set] = sum;
            }
        }

        /** A greatest price is kept by each step for itself, a sum only by the least from there on. */
        private boolean fits(int measure, int set, int point, int limit) {
            int step = steps[set * MOST_POINTS + point];
            if (measure == CUT || measure == GATE || measure == WIDTH) {
                return step <= limit;
            }
            return step + rest[set | 1 << point] == rest[set];
        }

        private int leadersFrom(Net net, int measure, int set, int limit) {
            int bits = 0;
            for (int p = 0; p < net.points; p++) {
                if ((set >> p & 1) == 0 && rows[set | 1 << p] > 0 && fits(measure, set, p, limit)) {
                    bits |= 1 << p;
                }
            }
            return bits;
        }

        static int lowest(int set) {
            for (int p = 0; p < MOST_POINTS; p++) {
                if ((set >> p & 1) != 0) {
                    return p;
                }
            }
            return 0;
        }
    }

    /** Over all rows by BAND: place by place, as it asks where those ahead stand that still wait. */
    private static final class BandSearch {
        private static final int CELL_BITS = 12;
        private static final int CELLS = 1 << CELL_BITS;
        private static final int SPREAD = 0x9E3779B1;

        private final Net net = new Net();
        private final int[] places = new int[MOST_POINTS];
        private final int[] keys = new int[CELLS];
        private final int[] counts = new int[CELLS];

        void find(Net asked, Finding found) {
            turnTo(asked);
            int limit = leastLimit();
            found.leastValue = limit;
            found.rowCount = rowsFrom(0, 0, limit);
            found.firstPoints = leadersFrom(0, 0, limit);
            int ahead = 0;
            for (int i = 0; i < net.points; i++) {
                int point = SetSearch.lowest(leadersFrom(i, ahead, limit));
                places[i] = point;
                found.firstRow[i] = point;
                ahead |= 1 << point;
            }
        }

        int rowsWithin(Net asked, int limit) {
            turnTo(asked);
            return rowsFrom(0, 0, Math.min(limit, net.points - 1));
        }

        private void turnTo(Net asked) {
            if (!net.sameLines(asked)) {
                net.copyFrom(asked);
                Arrays.fill(keys, NONE);
            }
        }

        private int leastLimit() {
            for (int limit = 0; limit < net.points - 1; limit++) {
                if (rowsFrom(0, 0, limit) > 0) {
                    return limit;
                }
            }
            return net.points - 1;
        }

        private int leadersFrom(int depth, int ahead, int limit) {
            int bits = 0;
            for (int p = 0; p < net.points; p++) {
                if ((ahead >> p & 1) == 0) {
                    places[depth] = p;
                    if (rowsFrom(depth + 1, ahead | 1 << p, limit) > 0) {
                        bits |= 1 << p;
                    }
                }
            }
            return bits;
        }

        /** How many rows begin with the points at the first places and keep the limit. */
        private int rowsFrom(int depth, int ahead, int limit) {
            if (depth >= net.points) {
                return 1;
            }
            int key = waiting(depth, ahead, limit);
            if (key == NONE) {
                return 0;
            }
            int cell = key * SPREAD >>> 32 - CELL_BITS;
            if (keys[cell] == key) {
                return counts[cell];
            }
            int sum = 0;
            for (int p = 0; p < net.points; p++) {
                if ((ahead >> p & 1) == 0) {
                    places[depth] = p;
                    sum += rowsFrom(depth + 1, ahead | 1 << p, limit);
                }
            }
            keys[cell] = key;
            counts[cell] = sum;
            return sum;
        }

        /**
         * All on which the rest of the row depends, as a number: the limit, those ahead, and those of
         * them that wait for others and must have them soon (four at most stand so at once, each at a
         * place of another remainder by four); NONE, if some can't have them soon enough.
         */
        private int waiting(int depth, int ahead, int limit) {
            int key = limit << MOST_POINTS | ahead;
            int marks = 0;
            int due = 0;
            int latest = Math.min(depth - 1, net.points - 2 - limit);
            for (int i = Math.max(0, depth - 1 - limit); i <= latest; i++) {
                int missing = net.nearBits[places[i]] & ~ahead;
                if (missing != 0) {
                    due |= missing;
                    if (Integer.bitCount(due) > i + limit + 1 - depth) {
                        return NONE;
                    }
                    marks |= places[i] + 1 << 4 * (i & 3);
                }
            }
            return key << 16 | marks;
        }
    }

    /** Slots as they were ahead of the latest acts. */
    private static final class History {
        int held;
        private int next;
        private final int[] slots = new int[MOST_UNDONE];
        private final Net[] nets = new Net[MOST_UNDONE];

        History() {
            for (int i = 0; i < MOST_UNDONE; i++) {
                nets[i] = new Net();
            }
        }

        void remember(int slot, Net asItWas) {
            slots[next] = slot;
            nets[next].copyFrom(asItWas);
            next = (next + 1) % MOST_UNDONE;
            held = Math.min(MOST_UNDONE, held + 1);
        }

        void takeBack(Net[] target) {
            next = (next + MOST_UNDONE - 1) % MOST_UNDONE;
            held--;
            target[slots[next]].copyFrom(nets[next]);
        }
    }
}
