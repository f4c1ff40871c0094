import java.util.NoSuchElementException;

/** Nets of knots that have few lines each. The document numbers what each call promises. */
public final class WiredNets {
    public static final int NONE = -1;

    private static final int SLOTS = 8;
    private static final int MOST_KNOTS = 24;
    private static final int MOST_DEGREE = 8;
    private static final int MOST_LINES = 96;
    private static final int MOST_NUMBERED = 12;
    private static final int MOST_HALVED = 14;
    private static final int MOST_TOLD = 10;
    private static final int MOST_FLOOR = 24;
    private static final int LINE_BASE = 32;
    private static final int SPLIT_PRICE = 1000000;
    private static final int NO_LIMIT = 2000000;
    private static final int MANY_ROUNDS = 1000000;

    private final Net[] slots;
    private final Net draft;
    private final Reader reader;
    private final Group group;
    private final Spread spread;
    private final Flow flow;
    private final Numbers numbers;
    private final Changer changer;
    private final Smalls smalls;
    private final Faller faller;
    private final Floor floor;
    private final Table table;

    public WiredNets() {
        slots = new Net[SLOTS];
        for (int slot = 0; slot < SLOTS; slot++) {
            slots[slot] = new Net();
        }
        draft = new Net();
        reader = new Reader();
        group = new Group();
        Spread shared = new Spread();
        spread = shared;
        flow = new Flow();
        numbers = new Numbers();
        changer = new Changer(shared);
        smalls = new Smalls();
        faller = new Faller(shared);
        floor = new Floor();
        table = new Table();
    }

    public boolean net(int slot, int n, int degree) {
        if (!isSlot(slot) || n < 1 || n > MOST_KNOTS || degree < 1 || degree > MOST_DEGREE) {
            return false;
        }
        slots[slot].begin(n, degree);
        return true;
    }

    public boolean line(int slot, int a, int b) throws NoSuchElementException {
        Net net = heldWith(slot, a, b);
        if (a == b || net.joins(a, b) || net.isFull(a) || net.isFull(b)) {
            return false;
        }
        net.flip(a, b);
        return true;
    }

    public boolean off(int slot, int a, int b) throws NoSuchElementException {
        Net net = heldWith(slot, a, b);
        if (a == b || !net.joins(a, b)) {
            return false;
        }
        net.flip(a, b);
        return true;
    }

    public int feed(int a, int b, int c, int d, int e) {
        if (!reader.hasRoom()) {
            return NONE;
        }
        reader.append(a);
        reader.append(b);
        reader.append(c);
        reader.append(d);
        reader.append(e);
        return reader.bytes;
    }

    public int read(int slot, int n) throws NoSuchElementException, IllegalArgumentException {
        if (!isSlot(slot)) {
            throw new NoSuchElementException();
        }
        if (n < 0 || n > reader.bytes) {
            throw new IllegalArgumentException();
        }
        int wrong = reader.parse(n);
        if (wrong == 0) {
            slots[slot].become(reader.net);
        }
        return wrong;
    }

    public int fault() {
        return reader.place;
    }

    public boolean turned(int slot, int group, int a, int b, int moves) {
        if (!isSlot(slot) || !this.group.choose(group, a, b) || !this.group.areMoves(moves)) {
            return false;
        }
        this.group.turn(slots[slot], moves);
        return true;
    }

    public boolean glued(int slot, int kind, int x, int y) throws NoSuchElementException {
        Net first = held(x);
        Net second = held(y);
        if (!isSlot(slot) || kind < 0 || kind > 1) {
            return false;
        }
        if (first.knots * second.knots > MOST_KNOTS || first.degree + second.degree > MOST_DEGREE) {
            return false;
        }
        draft.glue(kind == 1, first, second);
        slots[slot].become(draft);
        return true;
    }

    public boolean copy(int from, int slot) throws NoSuchElementException {
        Net net = held(from);
        if (!isSlot(slot)) {
            return false;
        }
        slots[slot].become(net);
        return true;
    }

    public int about(int slot, int what) throws NoSuchElementException {
        Net net = held(slot);
        switch (what) {
            case 0:
                return net.knots;
            case 1:
                return net.degree;
            case 2:
                return net.lines();
            case 3:
                return net.fewestAtKnot();
            case 4:
                return net.mostAtKnot();
            default:
                throw new NoSuchElementException();
        }
    }

    public int lineAt(int slot, int i) throws NoSuchElementException {
        int ends = held(slot).ends(i);
        if (ends == NONE) {
            throw new NoSuchElementException();
        }
        return ends;
    }

    public int distance(int slot, int a, int b) throws NoSuchElementException {
        return Spread.between(heldWith(slot, a, b).rows, a, b);
    }

    public int far(int slot, int what) throws NoSuchElementException {
        Net net = held(slot);
        switch (what) {
            case 0:
                return spread.isJoined(net) ? spread.greatest : NONE;
            case 1:
                return spread.isJoined(net) ? spread.total : NONE;
            case 2:
                return Spread.shortestRing(net);
            case 3:
                return flow.fewestLines(net);
            case 4:
                return flow.fewestKnots(net);
            case 5:
                return spread.price(net.rows, net.everyone(), NO_LIMIT);
            default:
                throw new NoSuchElementException();
        }
    }

    public int apart(int slot, int a, int b) throws NoSuchElementException {
        Net net = heldWith(slot, a, b);
        return a == b ? 0 : flow.waysByLines(net, a, b, MOST_KNOTS);
    }

    public long poly(int slot, int k) throws NoSuchElementException, IllegalArgumentException {
        Net net = held(slot);
        if (k < 0 || k > net.knots) {
            throw new NoSuchElementException();
        }
        if (net.knots > MOST_NUMBERED) {
            throw new IllegalArgumentException();
        }
        return numbers.coefficient(net, k);
    }

    public int above(int slot, int x) throws NoSuchElementException, IllegalArgumentException {
        Net net = held(slot);
        if (net.knots > MOST_NUMBERED || x < -MOST_NUMBERED || x > MOST_NUMBERED) {
            throw new IllegalArgumentException();
        }
        return numbers.rootsOver(net, x);
    }

    public long walks(int slot, int k) throws NoSuchElementException, IllegalArgumentException {
        Net net = held(slot);
        if (k < 0 || k > 10) {
            throw new IllegalArgumentException();
        }
        return numbers.walksBack(net, k);
    }

    public boolean change(int slot, int i, int j, boolean crossed) throws NoSuchElementException {
        Net net = held(slot);
        int first = net.ends(i);
        int second = net.ends(j);
        if (first == NONE || second == NONE || i >= j) {
            throw new NoSuchElementException();
        }
        return Changer.swap(net.rows, first, second, crossed);
    }

    public int better(int slot) throws NoSuchElementException {
        Net net = held(slot);
        return net.knots > MOST_NUMBERED ? NONE : changer.improve(net);
    }

    public int cool(int slot, int seed, int steps, int heat) throws NoSuchElementException, IllegalArgumentException {
        Net net = held(slot);
        if (steps < 0 || steps > 500 || heat < 0 || heat > 10000) {
            throw new IllegalArgumentException();
        }
        return changer.wander(net, seed, steps, heat);
    }

    public int seek(int group, int a, int b, int degree) throws IllegalArgumentException {
        if (degree < 1 || degree > MOST_DEGREE || !this.group.choose(group, a, b)) {
            throw new IllegalArgumentException();
        }
        return this.group.bestMoves(degree);
    }

    public int small(int n, int d, int k) throws IllegalArgumentException {
        if (n < 1 || n > Smalls.MOST || d < 1 || d > MOST_DEGREE || k < 0) {
            throw new IllegalArgumentException();
        }
        smalls.gather(n, d, k);
        return smalls.many;
    }

    public int found(int what) throws NoSuchElementException {
        if (!smalls.gathered) {
            throw new NoSuchElementException();
        }
        switch (what) {
            case 0:
                return smalls.many;
            case 1:
                return smalls.kinds;
            case 2:
                return smalls.fewest;
            case 3:
                return smalls.least;
            default:
                throw new NoSuchElementException();
        }
    }

    public int bound(int d, int k) throws IllegalArgumentException {
        if (d < 1 || d > MOST_DEGREE || k < 0 || k > 24) {
            throw new IllegalArgumentException();
        }
        long sum = 1;
        long ring = d;
        for (int step = 0; step < k && sum < 1000000000L; step++) {
            sum += ring;
            ring *= d - 1;
        }
        return (int) Math.min(sum, 1000000000L);
    }

    public int falls(int slot, int kind, int many) throws NoSuchElementException, IllegalArgumentException {
        Net net = held(slot);
        if (kind < 0 || kind > 1) {
            throw new NoSuchElementException();
        }
        if (many < 0 || many > Faller.MOST) {
            throw new IllegalArgumentException();
        }
        return faller.worst(net, kind == 1, many);
    }

    public int fallen(int i) throws NoSuchElementException {
        if (i < 0 || i >= faller.keptMany || i >= Faller.MOST) {
            throw new NoSuchElementException();
        }
        return faller.kept[i];
    }

    public int halves(int slot) throws NoSuchElementException {
        Net net = held(slot);
        return net.knots > MOST_HALVED ? NONE : Flow.fewestBetweenHalves(net);
    }

    public int lay(int slot, int w) throws NoSuchElementException, IllegalArgumentException {
        Net net = held(slot);
        if (w < 1 || w > MOST_FLOOR) {
            throw new IllegalArgumentException();
        }
        return floor.arrange(net, w);
    }

    public int laid(int knot) throws NoSuchElementException {
        if (knot < 0 || knot >= floor.keptKnots || knot >= MOST_KNOTS) {
            throw new NoSuchElementException();
        }
        return floor.kept[knot];
    }

    public int hop(int slot, int a, int b) throws NoSuchElementException {
        Net net = heldWith(slot, a, b);
        return table.fill(net) ? table.next(a, b) : NONE;
    }

    public boolean locks(int slot) throws NoSuchElementException {
        Net net = held(slot);
        return table.fill(net) && table.hasRing(net);
    }

    public int load(int slot, int a, int b) throws NoSuchElementException {
        Net net = heldWith(slot, a, b);
        return table.fill(net) ? table.waysAlong(net, a, b) : 0;
    }

    public int heavy(int slot, int what) throws NoSuchElementException {
        Net net = held(slot);
        if (what < 0 || what > 2) {
            throw new NoSuchElementException();
        }
        if (!table.fill(net)) {
            return NONE;
        }
        if (what == 2) {
            return table.worstPattern(net);
        }
        table.findHeaviest(net);
        return what == 1 ? table.heaviest : table.mostWays;
    }

    public int upward(int slot, int root, int what) throws NoSuchElementException {
        Net net = heldWith(slot, root, root);
        if (what < 0 || what > 1) {
            throw new NoSuchElementException();
        }
        if (!spread.isJoined(net)) {
            return NONE;
        }
        return table.upAndDown(net, root, what == 1);
    }

    public int tell(int slot, int knot) throws NoSuchElementException {
        Net net = heldWith(slot, knot, knot);
        if (net.knots > MOST_TOLD || !spread.isJoined(net)) {
            return NONE;
        }
        return spread.roundsFrom(net, knot);
    }

    public int grow(int slot, int pulls) throws NoSuchElementException, IllegalArgumentException {
        Net net = held(slot);
        if (pulls < 1 || pulls > 2) {
            throw new IllegalArgumentException();
        }
        return net.knots >= MOST_KNOTS ? NONE : changer.addKnot(net, pulls);
    }

    public int missing(int slot) throws NoSuchElementException {
        return changer.bestNewLine(held(slot));
    }

    public int count(int what) throws NoSuchElementException {
        if (what < 0 || what > 1) {
            throw new NoSuchElementException();
        }
        if (what == 1) {
            return reader.bytes;
        }
        int many = 0;
        for (int slot = 0; slot < SLOTS; slot++) {
            many += slots[slot].knots > 0 ? 1 : 0;
        }
        return many;
    }

    private static boolean isSlot(int slot) {
        return slot >= 0 && slot < SLOTS;
    }

    private Net held(int slot) {
        if (!isSlot(slot) || slots[slot].knots == 0) {
            throw new NoSuchElementException();
        }
        return slots[slot];
    }

    private Net heldWith(int slot, int a, int b) {
        Net net = held(slot);
        if (a < 0 || a >= net.knots || b < 0 || b >= net.knots) {
            throw new NoSuchElementException();
        }
        return net;
    }

    /** The least number in a set that is not empty, given as bits. */
    private static int lowest(int set) {
        return Integer.bitCount((set & -set) - 1);
    }

    /** All that the rows of a set's members hold. */
    private static int union(int[] rows, int set) {
        int out = 0;
        for (int left = set; left != 0; left &= left - 1) {
            out |= rows[lowest(left)];
        }
        return out;
    }

    /** A net as rows of bits: row a has bit b where a line joins both. No knots: nothing lies here. */
    private static final class Net {
        final int[] rows = new int[MOST_KNOTS];
        int knots;
        int degree;

        void begin(int n, int most) {
            knots = n;
            degree = most;
            for (int a = 0; a < MOST_KNOTS; a++) {
                rows[a] = 0;
            }
        }

        void become(Net other) {
            knots = other.knots;
            degree = other.degree;
            System.arraycopy(other.rows, 0, rows, 0, MOST_KNOTS);
        }

        void glue(boolean hung, Net x, Net y) {
            begin(x.knots * y.knots, x.degree + y.degree);
            for (int q = 0; q < y.knots; q++) {
                for (int p = 0; p < x.knots; p++) {
                    int row = hung && q > 0 ? 0 : x.rows[p] << (x.knots * q);
                    for (int left = y.rows[q]; left != 0; left &= left - 1) {
                        row |= 1 << (p + x.knots * lowest(left));
                    }
                    rows[p + x.knots * q] = row;
                }
            }
        }

        int everyone() {
            return (1 << knots) - 1;
        }

        boolean joins(int a, int b) {
            return (rows[a] >> b & 1) != 0;
        }

        boolean isFull(int a) {
            return Integer.bitCount(rows[a]) >= degree;
        }

        void flip(int a, int b) {
            rows[a] ^= 1 << b;
            rows[b] ^= 1 << a;
        }

        /** The knots over a that are joined with it. */
        int higher(int a) {
            return rows[a] & (-2 << a);
        }

        int lines() {
            int twice = 0;
            for (int a = 0; a < knots; a++) {
                twice += Integer.bitCount(rows[a]);
            }
            return twice / 2;
        }

        int fewestAtKnot() {
            int fewest = MOST_KNOTS;
            for (int a = 0; a < knots; a++) {
                fewest = Math.min(fewest, Integer.bitCount(rows[a]));
            }
            return fewest;
        }

        int mostAtKnot() {
            int most = 0;
            for (int a = 0; a < knots; a++) {
                most = Math.max(most, Integer.bitCount(rows[a]));
            }
            return most;
        }

        /** Both knots of the i-th line, NONE if there is none. */
        int ends(int i) {
            int before = i;
            for (int a = 0; a < knots && before >= 0; a++) {
                int set = higher(a);
                int many = Integer.bitCount(set);
                if (before < many) {
                    for (int k = 0; k < before; k++) {
                        set &= set - 1;
                    }
                    return LINE_BASE * a + lowest(set);
                }
                before -= many;
            }
            return NONE;
        }

        /** Writes both knots of every line, in the order of lines; answers how many. */
        int list(int[] ends) {
            int many = 0;
            for (int a = 0; a < knots; a++) {
                for (int left = higher(a); left != 0 && many < ends.length; left &= left - 1) {
                    ends[many] = LINE_BASE * a + lowest(left);
                    many++;
                }
            }
            return many;
        }
    }

    /** The tape, and the text on it that tells a net. */
    private static final class Reader {
        private static final int MOST_BYTES = 400;
        private static final int FEED_BYTES = 20;
        private static final int MOST_CLAUSES = 20;
        private static final int MOST_NAMED = 12;
        private static final int MOST_DIGITS = 3;

        private static final int END = 0;
        private static final int WORD = 1;
        private static final int NUMBER = 2;
        private static final int STOP = 3;
        private static final int NO_TOKEN = 4;

        private static final int ROW = 0;
        private static final int RING = 1;
        private static final int ALL = 2;
        private static final int STAR = 3;
        private static final int OFF = 4;

        final Net net = new Net();
        private final int[] tape = new int[MOST_BYTES];
        private final int[] named = new int[MOST_NAMED];
        private int namedMany;
        private int namedSet;
        int bytes;
        int place = NONE;
        private int length;
        private int kind;
        private int start;
        private int end;
        private int value;

        boolean hasRoom() {
            return bytes + FEED_BYTES <= MOST_BYTES;
        }

        void append(int four) {
            for (int shift = 24; shift >= 0 && bytes < MOST_BYTES; shift -= 8) {
                tape[bytes] = four >>> shift & 255;
                bytes++;
            }
        }

        /** Reads the tape's first n bytes, empties it, and answers the fault, 0 without. */
        int parse(int n) {
            length = Math.min(n, MOST_BYTES);
            bytes = 0;
            end = 0;
            place = NONE;
            int wrong = parseHead();
            for (int clause = 0; wrong == 0 && clause <= MOST_CLAUSES; clause++) {
                advance();
                if (kind == END) {
                    return 0;
                }
                wrong = parseClause(clause);
            }
            place = start;
            return wrong;
        }

        private int parseHead() {
            int wrong = expectWord("knots");
            if (wrong == 0) {
                wrong = expectSize(MOST_KNOTS);
            }
            int n = value;
            if (wrong == 0) {
                wrong = expectWord("degree");
            }
            if (wrong == 0) {
                wrong = expectSize(MOST_DEGREE);
            }
            if (wrong != 0) {
                return wrong;
            }
            net.begin(n, value);
            advance();
            return kind == STOP ? 0 : 1;
        }

        private int expectWord(String word) {
            advance();
            return isWord(word) ? 0 : 1;
        }

        private int expectSize(int most) {
            advance();
            if (kind != NUMBER) {
                return 1;
            }
            return isLong() || value < 1 || value > most ? 2 : 0;
        }

        private int parseClause(int clause) {
            int shape = shape();
            if (shape == NONE) {
                return 1;
            }
            if (clause == MOST_CLAUSES) {
                return 2;
            }
            namedMany = 0;
            namedSet = 0;
            int wrong = 0;
            for (int token = 0; wrong == 0 && token <= MOST_NAMED; token++) {
                advance();
                if (kind == STOP && namedMany >= 2) {
                    return apply(shape);
                }
                wrong = nameKnot(shape);
            }
            return wrong;
        }

        private int shape() {
            if (isWord("row")) {
                return ROW;
            }
            if (isWord("ring")) {
                return RING;
            }
            if (isWord("all")) {
                return ALL;
            }
            if (isWord("star")) {
                return STAR;
            }
            return isWord("off") ? OFF : NONE;
        }

        private int nameKnot(int shape) {
            if (kind != NUMBER || shape == OFF && namedMany == 2) {
                return 1;
            }
            if (namedMany == MOST_NAMED || isLong()) {
                return 2;
            }
            if (value >= net.knots) {
                return 3;
            }
            if ((namedSet >> value & 1) != 0) {
                return 4;
            }
            named[namedMany] = value;
            namedMany++;
            namedSet |= 1 << value;
            return 0;
        }

        private int apply(int shape) {
            if (shape == OFF) {
                return takeLine(named[0], named[1]);
            }
            if (shape == ALL) {
                return joinEachTwo();
            }
            int wrong = 0;
            for (int i = 1; wrong == 0 && i < namedMany; i++) {
                wrong = putLine(named[shape == STAR ? 0 : i - 1], named[i]);
            }
            if (wrong == 0 && shape == RING) {
                wrong = putLine(named[namedMany - 1], named[0]);
            }
            return wrong;
        }

        private int joinEachTwo() {
            int wrong = 0;
            for (int later = 1; later < namedMany; later++) {
                for (int earlier = 0; wrong == 0 && earlier < later; earlier++) {
                    wrong = putLine(named[earlier], named[later]);
                }
            }
            return wrong;
        }

        private int putLine(int a, int b) {
            if (net.joins(a, b)) {
                return 5;
            }
            if (net.isFull(a) || net.isFull(b)) {
                return 6;
            }
            net.flip(a, b);
            return 0;
        }

        private int takeLine(int a, int b) {
            if (!net.joins(a, b)) {
                return 5;
            }
            net.flip(a, b);
            return 0;
        }

        private void advance() {
            start = end;
            while (start < length && (tape[start] == 32 || tape[start] == 10)) {
                start++;
            }
            end = start;
            if (start >= length) {
                kind = END;
            } else if (isLetter(tape[start])) {
                kind = WORD;
                while (end < length && isLetter(tape[end])) {
                    end++;
                }
            } else if (isDigit(tape[start])) {
                advanceNumber();
            } else {
                kind = tape[start] == ';' ? STOP : NO_TOKEN;
                end++;
            }
        }

        private void advanceNumber() {
            kind = NUMBER;
            value = 0;
            while (end < length && isDigit(tape[end])) {
                value = isLong() ? value : 10 * value + tape[end] - '0';
                end++;
            }
        }

        private boolean isLong() {
            return end - start > MOST_DIGITS;
        }

        private boolean isWord(String word) {
            if (kind != WORD || end - start != word.length()) {
                return false;
            }
            for (int i = 0; i < word.length(); i++) {
                if (tape[start + i] != word.charAt(i)) {
                    return false;
                }
            }
            return true;
        }

        private static boolean isLetter(int sign) {
            return sign >= 'a' && sign <= 'z';
        }

        private static boolean isDigit(int sign) {
            return sign >= '0' && sign <= '9';
        }
    }

    /** A group of at most 24 things, nets turned by it, and the search for its best moves. */
    private static final class Group {
        private static final int SUMS = 0;
        private static final int TURNS = 1;

        private int kind;
        private int a = 1;
        private int b = 1;
        private int degree;
        /** Moves come as units: a thing and its opposite, which may be itself. */
        private final int[] units = new int[MOST_KNOTS];
        private final int[] unitRows = new int[MOST_KNOTS * MOST_KNOTS];
        private int unitsMany;
        /** Rows of the net turned by the units taken so far, one layer for each unit. */
        private final int[] layers = new int[(MOST_DEGREE + 1) * MOST_KNOTS];
        private int bestFar;
        private int bestSum;
        private int bestMoves;

        boolean choose(int kind, int a, int b) {
            if (a < 1 || b < 1 || a > MOST_KNOTS || b > MOST_KNOTS || a * b > MOST_KNOTS) {
                return false;
            }
            if (kind != SUMS && (kind != TURNS || b != 2)) {
                return false;
            }
            this.kind = kind;
            this.a = a;
            this.b = b;
            return true;
        }

        private int after(int x, int y) {
            int turn = x % a + y % a;
            if (kind == TURNS && x >= a) {
                turn = x % a - y % a + a;
            }
            return turn % a + a * ((x / a + y / a) % b);
        }

        private int opposite(int x) {
            if (kind == TURNS && x >= a) {
                return x;
            }
            return (a - x % a) % a + a * ((b - x / a) % b);
        }

        boolean areMoves(int moves) {
            if (Integer.bitCount(moves) > MOST_DEGREE || (moves & 1) != 0 || moves >>> (a * b) != 0) {
                return false;
            }
            for (int left = moves; left != 0; left &= left - 1) {
                if ((moves >> opposite(lowest(left)) & 1) == 0) {
                    return false;
                }
            }
            return true;
        }

        /** A net without moves has degree 1 all the same. */
        void turn(Net net, int moves) {
            net.begin(a * b, Math.max(1, Integer.bitCount(moves)));
            for (int x = 0; x < net.knots; x++) {
                for (int left = moves; left != 0; left &= left - 1) {
                    net.rows[x] |= 1 << after(x, lowest(left));
                }
            }
        }

        int bestMoves(int most) {
            degree = most;
            bestMoves = NONE;
            listUnits();
            for (int x = 0; x < MOST_KNOTS; x++) {
                layers[x] = 0;
            }
            search(0, 0, 0);
            return bestMoves;
        }

        private void listUnits() {
            unitsMany = 0;
            for (int s = 1; s < a * b; s++) {
                int back = opposite(s);
                if (back >= s) {
                    units[unitsMany] = 1 << s | 1 << back;
                    for (int x = 0; x < a * b; x++) {
                        unitRows[unitsMany * MOST_KNOTS + x] = 1 << after(x, s) | 1 << after(x, back);
                    }
                    unitsMany++;
                }
            }
        }

        private void search(int from, int layer, int moves) {
            if (moves > bestMoves && isNearest()) {
                return;
            }
            judge(layer, moves);
            for (int u = from; u < unitsMany && layer < MOST_DEGREE; u++) {
                int more = moves | units[u];
                if (Integer.bitCount(more) <= degree) {
                    for (int x = 0; x < a * b; x++) {
                        layers[(layer + 1) * MOST_KNOTS + x] =
                            layers[layer * MOST_KNOTS + x] | unitRows[u * MOST_KNOTS + x];
                    }
                    search(u + 1, layer + 1, more);
                }
            }
        }

        /** A net turned looks the same from each knot, so thing 0 alone tells how far all are. */
        private void judge(int layer, int moves) {
            int reached = 1;
            int edge = 1;
            int far = 0;
            int sum = 0;
            for (int step = 1; step <= MOST_KNOTS && edge != 0; step++) {
                int out = 0;
                for (int left = edge; left != 0; left &= left - 1) {
                    out |= layers[layer * MOST_KNOTS + lowest(left)];
                }
                edge = out & ~reached;
                reached |= edge;
                far = edge != 0 ? step : far;
                sum += step * Integer.bitCount(edge);
            }
            if (reached == (1 << (a * b)) - 1 && isBetter(far, sum, moves)) {
                bestFar = far;
                bestSum = sum;
                bestMoves = moves;
            }
        }

        /** FAR 2 by as many moves as may be: no other moves come nearer, only their number may be less. */
        private boolean isNearest() {
            return bestMoves != NONE && bestFar == 2 && Integer.bitCount(bestMoves) == degree;
        }

        private boolean isBetter(int far, int sum, int moves) {
            if (bestMoves == NONE || far != bestFar) {
                return bestMoves == NONE || far < bestFar;
            }
            if (sum != bestSum) {
                return sum < bestSum;
            }
            int many = Integer.bitCount(moves);
            int bestMany = Integer.bitCount(bestMoves);
            return many != bestMany ? many < bestMany : moves < bestMoves;
        }
    }

    /** How far knots are from one another, and how news spreads among them. */
    private static final class Spread {
        /** Bit u of row v: u is at most so many steps from v as have been taken. */
        private int[] near = new int[MOST_KNOTS];
        private int[] nearer = new int[MOST_KNOTS];
        private final int[] round = new int[1 << MOST_TOLD];
        int greatest;
        int total;

        static int between(int[] rows, int a, int b) {
            int reached = 1 << a;
            int edge = reached;
            for (int step = 0; step < MOST_KNOTS && edge != 0; step++) {
                if ((edge >> b & 1) != 0) {
                    return step;
                }
                edge = union(rows, edge) & ~reached;
                reached |= edge;
            }
            return NONE;
        }

        /** The shortest ring through a line is that line and the shortest way round it. */
        static int shortestRing(Net net) {
            int shortest = NONE;
            for (int a = 0; a < net.knots; a++) {
                for (int left = net.higher(a); left != 0; left &= left - 1) {
                    int b = lowest(left);
                    net.flip(a, b);
                    int round = between(net.rows, a, b) + 1;
                    net.flip(a, b);
                    if (round > 0 && (shortest == NONE || round < shortest)) {
                        shortest = round;
                    }
                }
            }
            return shortest;
        }

        boolean isJoined(Net net) {
            return price(net.rows, net.everyone(), NO_LIMIT) != SPLIT_PRICE;
        }

        /**
         * PRICE of the knots alive, or at least limit if it is not less: who looks for the least
         * need not know how much worse another is. Leaves FAR and SUM of a joined net.
         */
        int price(int[] rows, int alive, int limit) {
            int many = Integer.bitCount(alive);
            int apart = firstStep(rows, alive, many);
            int twice = many * (many - 1);
            int step = many > 1 ? 1 : 0;
            for (; step < MOST_KNOTS && apart > 0; step++) {
                twice += apart;
                if (1000 * (step + 1) + twice / 2 >= limit) {
                    return limit;
                }
                int before = apart;
                apart = widen(rows, alive, many);
                if (apart == before) {
                    return SPLIT_PRICE;
                }
            }
            greatest = step;
            total = twice / 2;
            return 1000 * greatest + total;
        }

        /** Takes the first step from each knot; answers how many pairs, both ways, are still apart. */
        private int firstStep(int[] rows, int alive, int many) {
            int apart = 0;
            for (int left = alive; left != 0; left &= left - 1) {
                int v = Integer.bitCount((left & -left) - 1);
                near[v] = rows[v] & alive | 1 << v;
                apart += many - Integer.bitCount(near[v]);
            }
            return apart;
        }

        /** Takes one step more from each knot; answers how many pairs, both ways, are still apart. */
        private int widen(int[] rows, int alive, int many) {
            int apart = 0;
            for (int left = alive; left != 0; left &= left - 1) {
                int v = Integer.bitCount((left & -left) - 1);
                int ball = near[v];
                if (ball != alive) {
                    for (int out = rows[v] & alive; out != 0; out &= out - 1) {
                        ball |= near[Integer.bitCount((out & -out) - 1)];
                    }
                    apart += many - Integer.bitCount(ball);
                }
                nearer[v] = ball;
            }
            int[] swap = near;
            near = nearer;
            nearer = swap;
            return apart;
        }

        int roundsFrom(Net net, int knot) {
            int all = net.everyone();
            for (int set = 0; set <= all && set < round.length; set++) {
                round[set] = NONE;
            }
            round[1 << knot] = 0;
            for (int now = 0; now < MOST_TOLD && round[all] == NONE; now++) {
                for (int set = 1; set <= all && set < round.length; set++) {
                    if (round[set] == now) {
                        passOn(net.rows, set, set, now + 1);
                    }
                }
            }
            return round[all];
        }

        /** Who can tell a new knot does: knowing more is never worse. */
        private void passOn(int[] rows, int known, int tellers, int now) {
            if (tellers == 0) {
                round[known] = round[known] == NONE ? now : round[known];
                return;
            }
            int rest = tellers & tellers - 1;
            int fresh = rows[lowest(tellers)] & ~known;
            if (fresh == 0) {
                passOn(rows, known, rest, now);
            }
            for (int left = fresh; left != 0; left &= left - 1) {
                passOn(rows, known | left & -left, rest, now);
            }
        }
    }

    /** Ways that share nothing, by sending one after another, and the fewest things that cut a net. */
    private static final class Flow {
        private static final int SIDES = 2 * MOST_KNOTS;

        /** Bit v of row u: one more way may go from u to v. */
        private final long[] open = new long[SIDES];
        private final int[] from = new int[SIDES];
        private final int[] queue = new int[SIDES];

        /** At most limit: who looks for the fewest need not count on. */
        int waysByLines(Net net, int a, int b, int limit) {
            for (int v = 0; v < MOST_KNOTS; v++) {
                open[v] = net.rows[v];
            }
            int ways = 0;
            while (ways < limit && findWay(a, b)) {
                sendByLines(a, b);
                ways++;
            }
            return ways;
        }

        /** Each knot is split into a side where ways come in and one where they go out (24 more). */
        private int waysByKnots(Net net, int a, int b, int limit) {
            for (int v = 0; v < MOST_KNOTS; v++) {
                open[v] = 1L << (MOST_KNOTS + v);
                open[MOST_KNOTS + v] = net.rows[v];
            }
            int ways = 0;
            while (ways < limit && findWay(MOST_KNOTS + a, b)) {
                sendByKnots(MOST_KNOTS + a, b);
                ways++;
            }
            return ways;
        }

        private boolean findWay(int a, int b) {
            long seen = 1L << a;
            int many = 1;
            queue[0] = a;
            for (int at = 0; at < many && (seen >> b & 1) == 0; at++) {
                int u = queue[at];
                long fresh = open[u] & ~seen;
                seen |= fresh;
                for (; fresh != 0 && many < SIDES; fresh &= fresh - 1) {
                    int v = Long.bitCount((fresh & -fresh) - 1);
                    from[v] = u;
                    queue[many] = v;
                    many++;
                }
            }
            return (seen >> b & 1) != 0;
        }

        /** A way against an earlier one on the same line sets that line free again. */
        private void sendByLines(int a, int b) {
            int at = b;
            for (int step = 0; at != a && step < SIDES; step++) {
                int before = from[at];
                if ((open[at] >> before & 1) != 0) {
                    open[before] &= ~(1L << at);
                } else {
                    open[at] |= 1L << before;
                }
                at = before;
            }
        }

        private void sendByKnots(int a, int b) {
            int at = b;
            for (int step = 0; at != a && step < SIDES; step++) {
                int before = from[at];
                open[before] &= ~(1L << at);
                open[at] |= 1L << before;
                at = before;
            }
        }

        int fewestLines(Net net) {
            if (net.knots == 1) {
                return NONE;
            }
            int fewest = MOST_KNOTS;
            for (int b = 1; b < net.knots; b++) {
                fewest = waysByLines(net, 0, b, fewest);
            }
            return fewest;
        }

        /**
         * The first knot that stays is cut off from some later one, and comes at latest behind as many
         * as fall: no knot further on need be looked at.
         */
        int fewestKnots(Net net) {
            int fewest = net.knots - 1;
            for (int a = 0; a < fewest; a++) {
                for (int b = a + 1; b < net.knots; b++) {
                    if (!net.joins(a, b)) {
                        fewest = waysByKnots(net, a, b, fewest);
                    }
                }
            }
            return fewest;
        }

        static int fewestBetweenHalves(Net net) {
            int half = net.knots / 2;
            int fewest = MOST_LINES;
            for (int set = 0; set <= net.everyone(); set++) {
                if (Integer.bitCount(set) == half) {
                    int between = 0;
                    for (int left = set; left != 0; left &= left - 1) {
                        between += Integer.bitCount(net.rows[lowest(left)] & ~set);
                    }
                    fewest = Math.min(fewest, between);
                }
            }
            return fewest;
        }
    }

    /** Own numbers and walks, both by the traces of the powers of the matrix of lines. */
    private static final class Numbers {
        private long[] power = new long[MOST_KNOTS * MOST_KNOTS];
        private long[] higher = new long[MOST_KNOTS * MOST_KNOTS];
        private final long[] traces = new long[MOST_NUMBERED + 1];
        private final long[] parts = new long[MOST_NUMBERED + 1];

        long walksBack(Net net, int k) {
            trace(net, k);
            return traces[k];
        }

        long coefficient(Net net, int k) {
            expand(net);
            return parts[k];
        }

        /**
         * All roots are real, so that as many are over x as signs change along the determinant
         * moved by x (Descartes).
         */
        int rootsOver(Net net, int x) {
            int n = net.knots;
            expand(net);
            for (int i = 0; i < n; i++) {
                for (int k = n - 1; k >= i; k--) {
                    parts[k] += x * parts[k + 1];
                }
            }
            int changes = 0;
            boolean plus = true;
            for (int k = n; k >= 0; k--) {
                if (parts[k] != 0 && parts[k] > 0 != plus) {
                    plus = !plus;
                    changes++;
                }
            }
            return changes;
        }

        /** Newton's way from the sums of the roots' powers to the determinant. */
        private void expand(Net net) {
            int n = net.knots;
            trace(net, n);
            parts[n] = 1;
            for (int k = 1; k <= n; k++) {
                long sum = 0;
                for (int i = 1; i <= k; i++) {
                    sum += parts[n - k + i] * traces[i];
                }
                parts[n - k] = -sum / k;
            }
        }

        /** The trace of a product is the sum over both matrices' like places, so half the powers do. */
        private void trace(Net net, int most) {
            int n = net.knots;
            for (int v = 0; v < n; v++) {
                for (int u = 0; u < n; u++) {
                    power[v * MOST_KNOTS + u] = v == u ? 1 : 0;
                }
            }
            for (int k = 0; k <= most && k <= MOST_NUMBERED; k += 2) {
                traces[k] = sumOfProducts(n, power);
                if (k < most && k < MOST_NUMBERED) {
                    multiply(net);
                    traces[k + 1] = sumOfProducts(n, higher);
                    long[] swap = power;
                    power = higher;
                    higher = swap;
                }
            }
        }

        private long sumOfProducts(int n, long[] other) {
            long sum = 0;
            for (int v = 0; v < n; v++) {
                for (int at = v * MOST_KNOTS; at < v * MOST_KNOTS + n; at++) {
                    sum += power[at] * other[at];
                }
            }
            return sum;
        }

        private void multiply(Net net) {
            int n = net.knots;
            for (int v = 0; v < n; v++) {
                for (int u = 0; u < n; u++) {
                    higher[v * MOST_KNOTS + u] = 0;
                }
                for (int left = net.rows[v]; left != 0; left &= left - 1) {
                    int w = lowest(left);
                    for (int u = 0; u < n; u++) {
                        higher[v * MOST_KNOTS + u] += power[w * MOST_KNOTS + u];
                    }
                }
            }
        }
    }

    /** Changes of lines, knots that come in, and the line that is missing: by what they do to PRICE. */
    private static final class Changer {
        private final Spread spread;
        private final int[] ends = new int[MOST_LINES];
        private int bestPrice;
        private int bestFirst;
        private int bestSecond;
        private boolean bestCrossed;

        Changer(Spread spread) {
            this.spread = spread;
        }

        /** Makes a change, if it can be. */
        static boolean swap(int[] rows, int first, int second, boolean crossed) {
            int a = first / LINE_BASE;
            int b = first % LINE_BASE;
            int c = crossed ? second % LINE_BASE : second / LINE_BASE;
            int d = crossed ? second / LINE_BASE : second % LINE_BASE;
            if (a == c || a == d || b == c || b == d) {
                return false;
            }
            if ((rows[a] >> c & 1) != 0 || (rows[b] >> d & 1) != 0) {
                return false;
            }
            turnLines(rows, a, b, c, d);
            return true;
        }

        /** Lines a b, c d become a c, b d; done twice, nothing has changed. */
        private static void turnLines(int[] rows, int a, int b, int c, int d) {
            rows[a] ^= 1 << b | 1 << c;
            rows[b] ^= 1 << a | 1 << d;
            rows[c] ^= 1 << d | 1 << a;
            rows[d] ^= 1 << c | 1 << b;
        }

        private static void unswap(int[] rows, int first, int second, boolean crossed) {
            int c = second / LINE_BASE;
            int d = second % LINE_BASE;
            turnLines(rows, first / LINE_BASE, first % LINE_BASE, crossed ? d : c, crossed ? c : d);
        }

        int improve(Net net) {
            bestPrice = spread.price(net.rows, net.everyone(), NO_LIMIT);
            int made = 0;
            for (; made < MANY_ROUNDS && findSwap(net); made++) {
                swap(net.rows, bestFirst, bestSecond, bestCrossed);
            }
            return made;
        }

        /** Looks for the change by which PRICE is least, and less than bestPrice. */
        private boolean findSwap(Net net) {
            int before = bestPrice;
            int lines = net.list(ends);
            for (int i = 0; i < lines; i++) {
                for (int j = i + 1; j < lines; j++) {
                    trySwap(net, ends[i], ends[j], false);
                    trySwap(net, ends[i], ends[j], true);
                }
            }
            return bestPrice < before;
        }

        private void trySwap(Net net, int first, int second, boolean crossed) {
            if (!swap(net.rows, first, second, crossed)) {
                return;
            }
            int price = spread.price(net.rows, net.everyone(), bestPrice);
            unswap(net.rows, first, second, crossed);
            if (price < bestPrice) {
                bestPrice = price;
                bestFirst = first;
                bestSecond = second;
                bestCrossed = crossed;
            }
        }

        int wander(Net net, int seed, int steps, int heat) {
            int lines = net.lines();
            if (lines < 1) {
                return 0;
            }
            int made = 0;
            int price = spread.price(net.rows, net.everyone(), NO_LIMIT);
            int state = seed;
            for (int step = 0; step < steps; step++) {
                state = follow(state);
                int one = drawn(state) % lines;
                state = follow(state);
                int other = drawn(state) % lines;
                state = follow(state);
                int most = price + Math.max(heat - step, 0);
                int now = dare(net, Math.min(one, other), Math.max(one, other), drawn(state) % 2 == 1, most);
                if (now <= most) {
                    price = now;
                    made++;
                }
            }
            return made;
        }

        private static int follow(int seed) {
            return seed * 1103515245 + 12345;
        }

        private static int drawn(int seed) {
            return seed >>> 16 & 32767;
        }

        /** Makes the change if PRICE is at most so much then, and answers it; otherwise more than that. */
        private int dare(Net net, int i, int j, boolean crossed, int most) {
            int first = net.ends(i);
            int second = net.ends(j);
            if (i == j || first == NONE || second == NONE || !swap(net.rows, first, second, crossed)) {
                return most + 1;
            }
            int price = spread.price(net.rows, net.everyone(), most + 1);
            if (price > most) {
                unswap(net.rows, first, second, crossed);
            }
            return price;
        }

        int addKnot(Net net, int pulls) {
            int lines = net.list(ends);
            bestPrice = SPLIT_PRICE + 1;
            bestFirst = NONE;
            bestSecond = NONE;
            for (int i = 0; i < lines; i++) {
                pull(net, ends[i]);
                if (pulls == 1) {
                    judgePull(net, ends[i], NONE);
                } else {
                    tryBehind(net, i, lines);
                }
                pull(net, ends[i]);
            }
            if (bestFirst == NONE) {
                return NONE;
            }
            pull(net, bestFirst);
            if (bestSecond != NONE) {
                pull(net, bestSecond);
            }
            net.knots++;
            net.degree = Math.max(net.degree, 2 * pulls);
            return bestPrice;
        }

        private void tryBehind(Net net, int i, int lines) {
            int taken = 1 << ends[i] / LINE_BASE | 1 << ends[i] % LINE_BASE;
            for (int j = i + 1; j < lines; j++) {
                int knots = 1 << ends[j] / LINE_BASE | 1 << ends[j] % LINE_BASE;
                if ((knots & taken) == 0) {
                    pull(net, ends[j]);
                    judgePull(net, ends[i], ends[j]);
                    pull(net, ends[j]);
                }
            }
        }

        /** A line goes to the knot that comes in (number n); done twice, nothing has changed. */
        private static void pull(Net net, int line) {
            int a = line / LINE_BASE;
            int b = line % LINE_BASE;
            net.flip(a, b);
            net.flip(a, net.knots);
            net.flip(b, net.knots);
        }

        private void judgePull(Net net, int first, int second) {
            int price = spread.price(net.rows, (2 << net.knots) - 1, bestPrice);
            if (price < bestPrice) {
                bestPrice = price;
                bestFirst = first;
                bestSecond = second;
            }
        }

        int bestNewLine(Net net) {
            int best = NONE;
            bestPrice = SPLIT_PRICE + 1;
            for (int a = 0; a < net.knots; a++) {
                for (int b = a + 1; b < net.knots; b++) {
                    if (!net.joins(a, b)) {
                        net.flip(a, b);
                        int price = spread.price(net.rows, net.everyone(), bestPrice);
                        net.flip(a, b);
                        best = price < bestPrice ? LINE_BASE * a + b : best;
                        bestPrice = Math.min(price, bestPrice);
                    }
                }
            }
            return best;
        }
    }

    /** All nets of a few knots, by kinds: the nets that differ only by their knots' numbers. */
    private static final class Smalls {
        private static final int MOST = 6;
        private static final int MOST_PAIRS = 15;
        private static final int MOST_KINDS = 156;
        private static final int MOST_ALIKE = 720;

        boolean gathered;
        int many;
        int kinds;
        int fewest;
        int least;
        /** For each n the least net of each kind and how many are of it: kept, for they never change. */
        private final int[] leasts = new int[(MOST + 1) * MOST_KINDS];
        private final int[] alike = new int[(MOST + 1) * MOST_KINDS];
        private final int[] kindsOf = new int[MOST + 1];
        private final int[] seen = new int[1 << (MOST_PAIRS - 5)];
        private final int[] queue = new int[MOST_ALIKE];
        private int queued;
        private final int[] rows = new int[MOST];
        /** Bits of the pairs of v with lesser knots, with knots greater than v + 1. */
        private final int[] withLesser = new int[MOST];
        private final int[] withGreater = new int[MOST];

        void gather(int n, int d, int k) {
            if (kindsOf[n] == 0) {
                sort(n);
            }
            many = 0;
            kinds = 0;
            fewest = NONE;
            least = NONE;
            for (int i = n * MOST_KINDS; i < n * MOST_KINDS + kindsOf[n]; i++) {
                unfold(n, leasts[i]);
                if (isWanted(n, d, k)) {
                    keep(leasts[i], alike[i]);
                }
            }
            gathered = true;
        }

        private void keep(int bits, int so) {
            int lines = Integer.bitCount(bits);
            many += so;
            kinds++;
            if (fewest == NONE || lines < fewest || lines == fewest && bits < least) {
                fewest = lines;
                least = bits;
            }
        }

        private void unfold(int n, int bits) {
            int pair = 0;
            for (int a = 0; a < n; a++) {
                rows[a] = 0;
            }
            for (int a = 0; a < n; a++) {
                for (int b = a + 1; b < n; b++) {
                    int joined = bits >> pair & 1;
                    rows[a] |= joined << b;
                    rows[b] |= joined << a;
                    pair++;
                }
            }
        }

        private boolean isWanted(int n, int d, int k) {
            for (int a = 0; a < n; a++) {
                int reached = 1 << a;
                for (int step = 0; step < k && step < n; step++) {
                    reached |= union(rows, reached);
                }
                if (Integer.bitCount(rows[a]) > d || reached != (1 << n) - 1) {
                    return false;
                }
            }
            return true;
        }

        /** Going up through all nets, the first one of a kind is its least. */
        private void sort(int n) {
            int pairs = n * (n - 1) / 2;
            for (int i = 0; i < seen.length; i++) {
                seen[i] = 0;
            }
            for (int v = 0; v < n - 1; v++) {
                markPairs(n, v);
            }
            int found = 0;
            for (int bits = 0; bits < 1 << pairs && found < MOST_KINDS; bits++) {
                if ((seen[bits >> 5] >> (bits & 31) & 1) == 0) {
                    leasts[n * MOST_KINDS + found] = bits;
                    alike[n * MOST_KINDS + found] = visitKind(n, bits);
                    found++;
                }
            }
            kindsOf[n] = found;
        }

        /** Changing neighbours' numbers again and again comes to every numbering. */
        private int visitKind(int n, int bits) {
            queued = 0;
            visit(bits);
            for (int at = 0; at < queued; at++) {
                for (int v = 0; v < n - 1; v++) {
                    visit(renumber(n, v, queue[at]));
                }
            }
            return queued;
        }

        private void visit(int bits) {
            int bit = 1 << (bits & 31);
            if ((seen[bits >> 5] & bit) == 0 && queued < MOST_ALIKE) {
                seen[bits >> 5] |= bit;
                queue[queued] = bits;
                queued++;
            }
        }

        /** Each lesser knot's pairs with v and v + 1 are neighbours; those of v with greater ones are a row. */
        private void markPairs(int n, int v) {
            int pair = v - 1;
            withLesser[v] = 0;
            for (int x = 0; x < v; x++) {
                withLesser[v] |= 1 << pair;
                pair += n - 2 - x;
            }
            withGreater[v] = ((1 << (n - 2 - v)) - 1) << (pair + 2);
        }

        /** Knots v and v + 1 change numbers. */
        private int renumber(int n, int v, int bits) {
            return changeBits(changeBits(bits, withLesser[v], 1), withGreater[v], n - 2 - v);
        }

        /** The bits of a mask change with those that lie so much higher. */
        private static int changeBits(int bits, int mask, int by) {
            int unlike = (bits ^ bits >> by) & mask;
            return bits ^ unlike ^ unlike << by;
        }
    }

    /** The lines or knots whose fall harms most. */
    private static final class Faller {
        private static final int MOST = 2;
        private static final int SPLIT = 100;

        private final Spread spread;
        private final int[] ends = new int[MOST_LINES];
        private final int[] chosen = new int[MOST];
        final int[] kept = new int[MOST];
        int keptMany;
        private boolean ofKnots;
        private int many;
        private int things;
        private int alive;
        private int greatest;

        Faller(Spread spread) {
            this.spread = spread;
        }

        int worst(Net net, boolean ofKnots, int many) {
            things = ofKnots ? net.knots - 1 : net.list(ends);
            if (many > things) {
                return NONE;
            }
            things = ofKnots ? net.knots : things;
            this.ofKnots = ofKnots;
            this.many = many;
            alive = net.everyone();
            greatest = NONE;
            choose(net, 0, 0);
            keptMany = many;
            return greatest;
        }

        private void choose(Net net, int level, int from) {
            if (level >= many || level >= MOST) {
                judge(net);
                return;
            }
            for (int i = from; i < things && greatest < SPLIT; i++) {
                chosen[level] = i;
                flip(net, i);
                choose(net, level + 1, i + 1);
                flip(net, i);
            }
        }

        private void flip(Net net, int i) {
            if (ofKnots) {
                alive ^= 1 << i;
            } else {
                net.flip(ends[i] / LINE_BASE, ends[i] % LINE_BASE);
            }
        }

        private void judge(Net net) {
            boolean split = spread.price(net.rows, alive, NO_LIMIT) == SPLIT_PRICE;
            int far = split ? SPLIT : spread.greatest;
            if (far > greatest) {
                greatest = far;
                System.arraycopy(chosen, 0, kept, 0, MOST);
            }
        }
    }

    /** Knots laid at places on a floor of some columns. */
    private static final class Floor {
        private static final int MOST_TRIED = 8;

        final int[] kept = new int[MOST_KNOTS];
        int keptKnots;
        private final int[] gaps = new int[MOST_KNOTS * MOST_KNOTS];
        private final int[] places = new int[MOST_KNOTS];
        private int best;

        int arrange(Net net, int w) {
            measureGaps(net.knots, w);
            keptKnots = net.knots;
            if (net.knots <= MOST_TRIED) {
                best = NO_LIMIT;
                tryPlaces(net, 0, 0, 0);
                return best;
            }
            for (int k = 0; k < net.knots; k++) {
                kept[k] = k;
            }
            boolean shorter = true;
            for (int round = 0; shorter && round < MANY_ROUNDS; round++) {
                shorter = exchange(net);
            }
            return length(net);
        }

        private void measureGaps(int n, int w) {
            for (int p = 0; p < n; p++) {
                for (int q = 0; q < n; q++) {
                    gaps[p * MOST_KNOTS + q] = Math.abs(p % w - q % w) + Math.abs(p / w - q / w);
                }
            }
        }

        /** Goes in the order of rows, so that the first of like lays is kept. */
        private void tryPlaces(Net net, int knot, int taken, int length) {
            if (knot >= net.knots) {
                best = length;
                System.arraycopy(places, 0, kept, 0, net.knots);
                return;
            }
            for (int p = 0; p < net.knots; p++) {
                if ((taken >> p & 1) == 0) {
                    int longer = length + reach(places, net.rows[knot] & (1 << knot) - 1, p);
                    if (longer < best) {
                        places[knot] = p;
                        tryPlaces(net, knot + 1, taken | 1 << p, longer);
                    }
                }
            }
        }

        /** How far some knots lie from a place, together. */
        private int reach(int[] lay, int knots, int place) {
            int sum = 0;
            for (int left = knots; left != 0; left &= left - 1) {
                sum += gaps[place * MOST_KNOTS + lay[lowest(left)]];
            }
            return sum;
        }

        private int length(Net net) {
            int sum = 0;
            for (int a = 0; a < net.knots; a++) {
                sum += reach(kept, net.higher(a), kept[a]);
            }
            return sum;
        }

        /** Makes the change of two knots' places that shortens most; false: none does. */
        private boolean exchange(Net net) {
            int gain = 0;
            int first = 0;
            int second = 0;
            for (int a = 0; a < net.knots; a++) {
                for (int b = a + 1; b < net.knots; b++) {
                    int shorter = gainOf(net, a, b);
                    if (shorter > gain) {
                        gain = shorter;
                        first = a;
                        second = b;
                    }
                }
            }
            int place = kept[first];
            kept[first] = kept[second];
            kept[second] = place;
            return gain > 0;
        }

        /** A line between both stays as long as it was. */
        private int gainOf(Net net, int a, int b) {
            int ofA = net.rows[a] & ~(1 << b);
            int ofB = net.rows[b] & ~(1 << a);
            return reach(kept, ofA, kept[a]) - reach(kept, ofA, kept[b])
                + reach(kept, ofB, kept[b]) - reach(kept, ofB, kept[a]);
        }
    }

    /** The ways of a net: by a table, and up and down from a root. */
    private static final class Table {
        private final int[] hops = new int[MOST_KNOTS * MOST_KNOTS];
        /** Place x t: the knots whose way towards t goes through x, x too. */
        private final int[] through = new int[MOST_KNOTS * MOST_KNOTS];
        private final int[] waiting = new int[MOST_KNOTS * MOST_KNOTS];
        private final int[] queue = new int[2 * MOST_LINES];
        private int[] near = new int[MOST_KNOTS];
        private int[] nearer = new int[MOST_KNOTS];
        int heaviest;
        int mostWays;
        private final int[] senders = new int[MOST_KNOTS];
        private final int[] servedBy = new int[MOST_KNOTS];
        private int tried;
        private final int[] up = new int[MOST_KNOTS];
        private final int[] down = new int[MOST_KNOTS];
        private int farthest;
        private int total;

        int next(int a, int b) {
            return hops[a * MOST_KNOTS + b];
        }

        /** False: not joined, and the table is of no use. */
        boolean fill(Net net) {
            int n = net.knots;
            int all = net.everyone();
            for (int v = 0; v < n; v++) {
                near[v] = 1 << v;
                for (int t = 0; t < n; t++) {
                    hops[v * MOST_KNOTS + t] = NONE;
                }
            }
            for (int step = 1; step < n; step++) {
                for (int v = 0; v < n; v++) {
                    nearer[v] = near[v] == all ? all : widen(net.rows[v], v);
                }
                int[] swap = near;
                near = nearer;
                nearer = swap;
            }
            return near[0] == all;
        }

        /** The least neighbour that has a knot within its reach is the first one on the way to it. */
        private int widen(int row, int v) {
            int ball = near[v];
            for (int left = row; left != 0; left &= left - 1) {
                int u = lowest(left);
                int fresh = near[u] & ~ball;
                ball |= fresh;
                for (; fresh != 0; fresh &= fresh - 1) {
                    hops[v * MOST_KNOTS + lowest(fresh)] = u;
                }
            }
            return ball;
        }

        private void trackWays(int n) {
            for (int t = 0; t < n; t++) {
                for (int x = 0; x < n; x++) {
                    through[x * MOST_KNOTS + t] = 0;
                }
                for (int s = 0; s < n; s++) {
                    int x = s;
                    for (int step = 0; step < n && x != t && x != NONE; step++) {
                        through[x * MOST_KNOTS + t] |= 1 << s;
                        x = next(x, t);
                    }
                }
            }
        }

        int waysAlong(Net net, int a, int b) {
            trackWays(net.knots);
            return countAlong(net.knots, a, b);
        }

        private int countAlong(int n, int a, int b) {
            int ways = 0;
            for (int t = 0; t < n; t++) {
                if (next(a, t) == b) {
                    ways += Integer.bitCount(through[a * MOST_KNOTS + t]);
                }
            }
            return ways;
        }

        /** The first line in a direction with the greatest load; each line has some. */
        void findHeaviest(Net net) {
            heaviest = NONE;
            mostWays = 0;
            trackWays(net.knots);
            for (int a = 0; a < net.knots; a++) {
                for (int left = net.rows[a]; left != 0; left &= left - 1) {
                    int b = lowest(left);
                    int ways = countAlong(net.knots, a, b);
                    if (ways > mostWays) {
                        mostWays = ways;
                        heaviest = LINE_BASE * a + b;
                    }
                }
            }
        }

        /** It locks if lines that wait for no other one, taken away again and again, leave some. */
        boolean hasRing(Net net) {
            countWaiting(net.knots);
            int many = 0;
            for (int a = 0; a < net.knots; a++) {
                for (int left = net.rows[a]; left != 0; left &= left - 1) {
                    int at = a * MOST_KNOTS + lowest(left);
                    if (waiting[at] == 0 && many < queue.length) {
                        queue[many] = at;
                        many++;
                    }
                }
            }
            for (int at = 0; at < many; at++) {
                many = release(net.knots, queue[at] / MOST_KNOTS, queue[at] % MOST_KNOTS, many);
            }
            return many < 2 * net.lines();
        }

        private void countWaiting(int n) {
            for (int at = 0; at < waiting.length; at++) {
                waiting[at] = 0;
            }
            for (int a = 0; a < n; a++) {
                for (int t = 0; t < n; t++) {
                    int b = next(a, t);
                    if (b != NONE && b != t) {
                        waiting[b * MOST_KNOTS + next(b, t)]++;
                    }
                }
            }
        }

        private int release(int n, int a, int b, int queued) {
            int many = queued;
            for (int t = 0; t < n; t++) {
                if (t != b && next(a, t) == b) {
                    int at = b * MOST_KNOTS + next(b, t);
                    waiting[at]--;
                    if (waiting[at] == 0 && many < queue.length) {
                        queue[many] = at;
                        many++;
                    }
                }
            }
            return many;
        }

        int worstPattern(Net net) {
            int most = 0;
            trackWays(net.knots);
            for (int a = 0; a < net.knots; a++) {
                for (int left = net.rows[a]; left != 0; left &= left - 1) {
                    int b = lowest(left);
                    if (countAlong(net.knots, a, b) > most) {
                        most = Math.max(most, match(net.knots, a, b));
                    }
                }
            }
            return most;
        }

        /** Most ways along a line that share neither sender nor receiver: a matching of both. */
        private int match(int n, int a, int b) {
            for (int t = 0; t < n; t++) {
                senders[t] = next(a, t) == b ? through[a * MOST_KNOTS + t] : 0;
                servedBy[t] = NONE;
            }
            int many = 0;
            for (int t = 0; t < n; t++) {
                tried = 0;
                many += serve(t, 0) ? 1 : 0;
            }
            return many;
        }

        /** Finds a sender for t, if need be one whose receiver finds another. */
        private boolean serve(int t, int depth) {
            for (int left = senders[t] & ~tried; left != 0 && depth <= MOST_KNOTS; left = senders[t] & ~tried) {
                int s = lowest(left);
                tried |= 1 << s;
                if (servedBy[s] == NONE || serve(servedBy[s], depth + 1)) {
                    servedBy[s] = t;
                    return true;
                }
            }
            return false;
        }

        int upAndDown(Net net, int root, boolean together) {
            direct(net, root);
            farthest = 0;
            total = 0;
            for (int s = 0; s < net.knots; s++) {
                climbFrom(s);
            }
            return together ? total : farthest;
        }

        private void direct(Net net, int root) {
            int closer = 0;
            int level = 1 << root;
            for (int step = 0; step < MOST_KNOTS && level != 0; step++) {
                for (int left = level; left != 0; left &= left - 1) {
                    int v = lowest(left);
                    up[v] = net.rows[v] & (closer | level & (1 << v) - 1);
                    down[v] = net.rows[v] & ~up[v];
                }
                closer |= level;
                level = union(net.rows, level) & ~closer;
            }
        }

        /** A knot come to upwards may still do all that one come to downwards may. */
        private void climbFrom(int s) {
            int climbed = 1 << s;
            int descended = 0;
            int rising = climbed;
            int sinking = 0;
            for (int step = 1; step <= 2 * MOST_KNOTS && (rising | sinking) != 0; step++) {
                int seen = climbed | descended;
                int lower = union(down, rising | sinking);
                rising = union(up, rising) & ~climbed;
                climbed |= rising;
                sinking = lower & ~climbed & ~descended;
                descended |= sinking;
                int fresh = (rising | sinking) & ~seen;
                total += step * Integer.bitCount(fresh);
                farthest = fresh != 0 ? Math.max(farthest, step) : farthest;
            }
        }
    }
}
