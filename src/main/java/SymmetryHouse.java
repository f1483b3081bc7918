import java.util.NoSuchElementException;

/** The symmetry of crystals: texts, groups modulo the lattice, points, reflections and bases. */
public final class SymmetryHouse {
    public static final int NONE = -1;

    private static final int SLOTS = 6;
    private static final int TAPE_LIMIT = 400;
    private static final int FED = 5;
    private static final int LINE_LIMIT = 96;
    private static final int TRIPLE_LIMIT = 12;
    private static final int ROTATION_LIMIT = 4;
    private static final int GENERATOR_LIMIT = 12;
    private static final int MATRIX_LIMIT = 48;
    /** The document names no number for FULL: this is the most that a centred lattice and 48 matrices give. */
    private static final int OPERATOR_LIMIT = 192;
    /** No matrix of any group goes beyond it: turn() refuses more, and no finite group of texts comes near it. */
    private static final int NUMBER_LIMIT = 999;

    private static final int SYNTAX = 1;
    private static final int TWICE = 2;
    private static final int PARTS = 3;
    private static final int DETERMINANT = 4;
    private static final int MANY_TRIPLES = 5;
    private static final int WRONG_AXIS = 6;
    private static final int SCREW = 7;
    private static final int MANY_ROTATIONS = 8;

    private static final int FAULTY = -2;
    private static final int INFINITE = -3;
    private static final int FULL = -4;
    private static final int NOT_WITHIN = -2;
    private static final int NOT_UNIMODULAR = -2;
    private static final int TOO_GREAT = -3;
    private static final int NO_NUMBER = -100000;

    private static final int END = -1;
    private static final int BAD = -2;
    private static final int DIGITS = '0';

    private static final int POINT_LIMIT = 10000;
    private static final int PARTS_LIMIT = 1000;
    private static final long PLACE_BASE = 24000L;
    private static final int INDEX_LIMIT = 1000;
    private static final int METRIC_LIMIT = 1000;
    private static final int SPHERE_LIMIT = 6;

    private static final int[] IDENTITY = {1, 0, 0, 0, 1, 0, 0, 0, 1};
    private static final int[] INVERSION = {-1, 0, 0, 0, -1, 0, 0, 0, -1};

    /** Along z: 1, 2, 3, 4, 6, then 2 with ', 2 with ", 3 with *. */
    private static final int[] ROTATIONS = {
        1, 0, 0, 0, 1, 0, 0, 0, 1,
        -1, 0, 0, 0, -1, 0, 0, 0, 1,
        0, -1, 0, 1, -1, 0, 0, 0, 1,
        0, -1, 0, 1, 0, 0, 0, 0, 1,
        1, -1, 0, 1, 0, 0, 0, 0, 1,
        0, -1, 0, -1, 0, 0, 0, 0, -1,
        0, 1, 0, 1, 0, 0, 0, 0, -1,
        0, 0, 1, 1, 0, 0, 0, 1, 0};

    /** How many matrices of the types -6 -4 -3 -2 -1 1 2 3 4 6 each class has, a decimal digit each. */
    private static final long[] CLASSES = {
        10000L, 110000L,
        11000L, 1010000L, 1111000L,
        13000L, 2011000L, 3113000L,
        11020L, 200011000L, 201111020L, 15020L, 4011020L, 202013000L, 205115020L,
        10200L, 20110200L, 13200L, 3010200L, 23113200L,
        11202L, 2001010200L, 2021111202L, 17202L, 6011202L, 2004013200L, 2027117202L,
        13800L, 83113800L, 19860L, 606013800L, 689119860L};

    /** The last class of each system. */
    private static final int[] SYSTEM_ENDS = {2, 5, 8, 15, 20, 27, 32};

    /** Which row and column of a metric its six numbers are. */
    private static final int[] METRIC_ROWS = {0, 1, 2, 1, 0, 0};
    private static final int[] METRIC_COLUMNS = {0, 1, 2, 2, 2, 1};

    private final int[] tape;
    private final int[] fed = new int[FED];
    private final int[] line = new int[LINE_LIMIT];
    private final int[] marks = new int[OPERATOR_LIMIT];
    private final Group[] slots = new Group[SLOTS];
    private final Generators generators;
    private final TripleReader triples;
    private final SymbolReader symbols;
    private final Draft draft = new Draft();
    private final Nature nature = new Nature();
    private final Basis frame = new Basis();
    private final Metric form = new Metric();
    private final Points points = new Points();
    private int tapeLength;
    private int lineLength;
    private boolean hasRead;
    private int readMatrices;

    public SymmetryHouse() {
        int[] bytes = new int[TAPE_LIMIT];
        Generators made = new Generators();
        tape = bytes;
        generators = made;
        triples = new TripleReader(bytes, made);
        symbols = new SymbolReader(bytes, made);
        for (int i = 0; i < SLOTS; i++) {
            slots[i] = new Group();
        }
    }

    // ---- texts

    public int feed(int a, int b, int c, int d, int e) {
        if (tapeLength + FED * 4 > TAPE_LIMIT) {
            return NONE;
        }
        fed[0] = a;
        fed[1] = b;
        fed[2] = c;
        fed[3] = d;
        fed[4] = e;
        for (int i = 0; i < FED; i++) {
            for (int shift = 24; shift >= 0; shift -= 8) {
                tape[tapeLength] = (fed[i] >>> shift) & 255;
                tapeLength++;
            }
        }
        return tapeLength;
    }

    public int read(int slot, int n, boolean symbol) {
        if (n < 0 || n > tapeLength || !isSlot(slot)) {
            return NONE;
        }
        tapeLength = 0;
        hasRead = true;
        readMatrices = 0;
        generators.clear();
        if (symbol) {
            symbols.readSymbol(n);
        } else {
            triples.readTriples(n);
        }
        if (generators.fault != 0) {
            return FAULTY;
        }
        int answer = draft.generate(generators);
        readMatrices = answer == INFINITE ? MATRIX_LIMIT + 1 : draft.matrices;
        if (answer > 0) {
            slots[slot].settle(draft);
        }
        return answer;
    }

    public int fault(int what) {
        if (!hasRead) {
            return NONE;
        }
        switch (what) {
            case 0:
                return generators.fault;
            case 1:
                return generators.place;
            case 2:
                return generators.count;
            case 3:
                return readMatrices;
            default:
                return NONE;
        }
    }

    public int text(int slot, int i) {
        Group g = groupAt(slot);
        if (g == null || !g.hasOperator(i)) {
            return NONE;
        }
        lineLength = 0;
        int at = g.matrixOf(i) * 9;
        for (int row = 0; row < 3; row++) {
            if (row > 0) {
                write(',');
            }
            writeRow(g.rows, at + row * 3);
            writeFraction(Algebra.shareOf(g.codes[i], row));
        }
        return lineLength;
    }

    public int out(int i) throws NoSuchElementException {
        if (i < 0 || i >= lineLength) {
            throw new NoSuchElementException("no such byte");
        }
        return line[i];
    }

    // ---- groups and their operators

    public int group(int slot, int what) {
        Group g = groupAt(slot);
        if (g == null) {
            return NONE;
        }
        switch (what) {
            case 0:
                return g.order();
            case 1:
                return g.matrices;
            case 2:
                return g.pure;
            case 3:
                return g.pointClass();
            case 4:
                return systemOf(g.pointClass());
            case 5:
                return g.matrixNumber(INVERSION, 0) != NONE ? 1 : 0;
            case 6:
                return g.traceSum() > 0 ? 1 : 0;
            case 7:
                return g.centreSize() == g.order() ? 1 : 0;
            case 8:
                return g.centreSize();
            case 9:
                return g.conjugateSets();
            case 10:
                return g.isProper() ? 1 : 0;
            case 11:
                return fixingOperators(g);
            default:
                return NONE;
        }
    }

    public int operator(int slot, int i, int k) {
        Group g = groupAt(slot);
        if (g == null || !g.hasOperator(i) || k < 0 || k > 23) {
            return NO_NUMBER;
        }
        int at = g.matrixOf(i) * 9;
        if (k < 9) {
            return g.rows[at + k];
        }
        if (k < 12) {
            return Algebra.shareOf(g.codes[i], k - 9);
        }
        if (k == 22) {
            return g.inverseOf(i);
        }
        if (k == 23) {
            return g.exchangedWith(i);
        }
        nature.look(g.rows, at, g.codes[i]);
        return natureNumber(k);
    }

    public int product(int slot, int i, int j) {
        Group g = groupAt(slot);
        if (g == null || !g.hasOperator(i) || !g.hasOperator(j)) {
            return NONE;
        }
        return g.after(i, j);
    }

    public int find(int slot, int other, int i) {
        Group g = groupAt(slot);
        Group from = groupAt(other);
        if (g == null || from == null || !from.hasOperator(i)) {
            return NONE;
        }
        return g.numberIn(from, i);
    }

    // ---- groups beside one another

    public int compare(int one, int two) {
        Group a = groupAt(one);
        Group b = groupAt(two);
        if (a == null || b == null) {
            return NONE;
        }
        return (a.holdsAll(b) ? 1 : 0) + (b.holdsAll(a) ? 2 : 0);
    }

    public int common(int one, int two, int slot) {
        Group a = groupAt(one);
        Group b = groupAt(two);
        if (a == null || b == null || !isSlot(slot)) {
            return NONE;
        }
        draft.meet(a, b);
        slots[slot].settle(draft);
        return slots[slot].order();
    }

    public int cosets(int one, int two) {
        return countCosets(groupAt(one), groupAt(two));
    }

    public int coset(int one, int two, int i) {
        Group a = groupAt(one);
        Group b = groupAt(two);
        int sets = countCosets(a, b);
        if (sets < 0 || a == null || b == null) {
            return sets;
        }
        if (!a.hasOperator(i)) {
            return NONE;
        }
        a.markCosets(b, marks);
        return marks[i];
    }

    public int normal(int one, int two) {
        Group a = groupAt(one);
        Group b = groupAt(two);
        int sets = countCosets(a, b);
        if (sets < 0 || a == null || b == null) {
            return sets;
        }
        a.markCosets(b, marks);
        return a.hasNormal(b, marks) ? 1 : 0;
    }

    public int part(int slot, int which, int t, int to) {
        Group g = groupAt(slot);
        if (g == null || !isSlot(to) || which < 0 || which > 2) {
            return NONE;
        }
        if (which == 2 && Algebra.weightOf(t) == 0) {
            return NONE;
        }
        if (!draft.choose(g, which, t)) {
            return 0;
        }
        slots[to].settle(draft);
        return slots[to].order();
    }

    // ---- bases

    public boolean basis(int k, int v) {
        return frame.put(k, v);
    }

    public int turn(int slot, int to, boolean back) {
        Group g = groupAt(slot);
        if (g == null || !isSlot(to)) {
            return NONE;
        }
        if (!frame.invert()) {
            return NOT_UNIMODULAR;
        }
        if (!draft.carry(g, frame, back)) {
            return TOO_GREAT;
        }
        slots[to].settle(draft);
        return slots[to].order();
    }

    // ---- metric

    public int metric(int slot, int a, int b, int c, int d, int e, int f) {
        Group g = groupAt(slot);
        if (g == null || !form.put(a, b, c, d, e, f)) {
            return NONE;
        }
        return form.measure(g) ? 1 : 0;
    }

    public long mean(int k) {
        if (k < 0 || k > 5) {
            return 0L;
        }
        return form.sums[k];
    }

    // ---- points

    public int orbit(int slot, int a, int b, int c, int d) {
        Group g = groupAt(slot);
        if (g == null || d < 1 || d > PARTS_LIMIT) {
            return NONE;
        }
        if (!within(a, POINT_LIMIT) || !within(b, POINT_LIMIT) || !within(c, POINT_LIMIT)) {
            return NONE;
        }
        points.spread(g, a, b, c, d);
        return points.places;
    }

    public int place(int i, int k) {
        if (i < 0 || i >= points.places || k < 0 || k > 2) {
            return NONE;
        }
        return points.coordinate(i, k);
    }

    public int site(int what) {
        if (points.places == 0) {
            return NONE;
        }
        switch (what) {
            case 0:
                return points.staying;
            case 1:
                return points.siteClass;
            case 2:
                return points.free;
            case 3:
                return points.ownPlace();
            case 4:
                return points.parts;
            default:
                return NONE;
        }
    }

    public int stays(int i) {
        if (i < 0 || i >= points.staying) {
            return NONE;
        }
        return points.stabiliser[i];
    }

    // ---- reflections

    public int reflection(int slot, int h, int k, int l, int what) {
        Group g = groupAt(slot);
        if (g == null || !within(h, INDEX_LIMIT) || !within(k, INDEX_LIMIT) || !within(l, INDEX_LIMIT)) {
            return NONE;
        }
        switch (what) {
            case 0:
                return Reflections.isAbsent(g, h, k, l) ? 1 : 0;
            case 1:
                return Reflections.countLeading(g, h, k, l, -1) > 0 ? 1 : 0;
            case 2:
                return Reflections.countAlike(g, h, k, l);
            case 3:
                return Reflections.countWithFriedel(g, h, k, l);
            case 4:
                return Reflections.countLeading(g, h, k, l, 1);
            case 5:
                return Reflections.turningPhase(g, h, k, l);
            default:
                return NONE;
        }
    }

    public int absent(int slot, int n) {
        Group g = groupAt(slot);
        if (g == null || n < 0 || n > SPHERE_LIMIT) {
            return NONE;
        }
        return Reflections.countAbsent(g, n);
    }

    // ---- what the calls share

    private static boolean isSlot(int slot) {
        return slot >= 0 && slot < SLOTS;
    }

    private static boolean within(int v, int limit) {
        return v >= -limit && v <= limit;
    }

    private Group groupAt(int slot) {
        if (!isSlot(slot) || slots[slot].order() == 0) {
            return null;
        }
        return slots[slot];
    }

    private static int systemOf(int pointClass) {
        for (int i = 0; i < SYSTEM_ENDS.length; i++) {
            if (pointClass <= SYSTEM_ENDS[i]) {
                return i + 1;
            }
        }
        return NONE;
    }

    private int fixingOperators(Group g) {
        int count = 0;
        for (int i = 0; i < g.order(); i++) {
            nature.look(g.rows, g.matrixOf(i) * 9, g.codes[i]);
            if (nature.fixes()) {
                count++;
            }
        }
        return count;
    }

    private int natureNumber(int k) {
        if (k >= 15 && k <= 17) {
            return nature.axis[k - 15];
        }
        if (k >= 19 && k <= 21) {
            return nature.pitch[k - 19];
        }
        switch (k) {
            case 12:
                return nature.type;
            case 13:
                return nature.turns;
            case 14:
                return nature.order;
            default:
                return nature.sense;
        }
    }

    private static int countCosets(Group a, Group b) {
        if (a == null || b == null) {
            return NONE;
        }
        if (!a.holdsAll(b)) {
            return NOT_WITHIN;
        }
        int size = b.order();
        return size > 0 ? a.order() / size : NONE;
    }

    private void write(int c) {
        if (lineLength < LINE_LIMIT) {
            line[lineLength] = c;
            lineLength++;
        }
    }

    private void writeNumber(int v) {
        boolean told = false;
        for (int unit = 100; unit > 0; unit /= 10) {
            int digit = v / unit % 10;
            told = told || digit > 0;
            if (told) {
                write('0' + digit);
            }
        }
    }

    private void writeRow(int[] rows, int at) {
        boolean first = true;
        for (int k = 0; k < 3; k++) {
            int v = rows[at + k];
            if (v != 0) {
                if (v < 0) {
                    write('-');
                } else if (!first) {
                    write('+');
                }
                int size = v < 0 ? -v : v;
                if (size > 1) {
                    writeNumber(size);
                }
                write('x' + k);
                first = false;
            }
        }
    }

    private void writeFraction(int share) {
        int divisor = Algebra.commonDivisor(share, 24);
        if (share > 0 && divisor > 0) {
            write('+');
            writeNumber(share / divisor);
            write('/');
            writeNumber(24 / divisor);
        }
    }

    /** Matrices of nine numbers in longer rows, and translations as one number: 576, 24 and 1 to the three axes. */
    private static final class Algebra {
        static int encode(int x, int y, int z) {
            return Math.floorMod(x, 24) * 576 + Math.floorMod(y, 24) * 24 + Math.floorMod(z, 24);
        }

        static int shareOf(int code, int k) {
            if (k == 0) {
                return code / 576;
            }
            return k == 1 ? code / 24 % 24 : code % 24;
        }

        static int sum(int a, int b) {
            return encode(a / 576 + b / 576, a / 24 % 24 + b / 24 % 24, a % 24 + b % 24);
        }

        static int difference(int a, int b) {
            return encode(a / 576 - b / 576, a / 24 % 24 - b / 24 % 24, a % 24 - b % 24);
        }

        static int rowTimes(int[] m, int at, int x, int y, int z) {
            return m[at] * x + m[at + 1] * y + m[at + 2] * z;
        }

        static int columnTimes(int[] m, int at, int x, int y, int z) {
            return m[at] * x + m[at + 3] * y + m[at + 6] * z;
        }

        static int moved(int[] m, int at, int code) {
            int x = code / 576;
            int y = code / 24 % 24;
            int z = code % 24;
            return encode(rowTimes(m, at, x, y, z), rowTimes(m, at + 3, x, y, z), rowTimes(m, at + 6, x, y, z));
        }

        static void multiply(int[] a, int at, int[] b, int bt, int[] to) {
            for (int r = 0; r < 3; r++) {
                int x = a[at + r * 3];
                int y = a[at + r * 3 + 1];
                int z = a[at + r * 3 + 2];
                for (int c = 0; c < 3; c++) {
                    to[r * 3 + c] = columnTimes(b, bt + c, x, y, z);
                }
            }
        }

        static boolean isModest(int[] m) {
            for (int k = 0; k < 9; k++) {
                if (!within(m[k], NUMBER_LIMIT)) {
                    return false;
                }
            }
            return true;
        }

        static int order(int[] a, int at, int[] b, int bt) {
            for (int k = 0; k < 9; k++) {
                if (a[at + k] != b[bt + k]) {
                    return a[at + k] < b[bt + k] ? -1 : 1;
                }
            }
            return 0;
        }

        static int trace(int[] m, int at) {
            return m[at] + m[at + 4] + m[at + 8];
        }

        /** Rows and columns are taken going round from r and c, so that the sign comes right by itself. */
        static int cofactor(int[] m, int at, int r, int c) {
            int below = at + (r + 1) % 3 * 3;
            int last = at + (r + 2) % 3 * 3;
            int next = (c + 1) % 3;
            int far = (c + 2) % 3;
            return m[below + next] * m[last + far] - m[below + far] * m[last + next];
        }

        static int determinant(int[] m, int at) {
            int value = 0;
            for (int c = 0; c < 3; c++) {
                value += m[at + c] * cofactor(m, at, 0, c);
            }
            return value;
        }

        static int typeOf(int[] m, int at) {
            int sign = determinant(m, at) < 0 ? -1 : 1;
            switch (sign * trace(m, at)) {
                case 3:
                    return sign;
                case -1:
                    return 2 * sign;
                case 0:
                    return 3 * sign;
                case 1:
                    return 4 * sign;
                default:
                    return 6 * sign;
            }
        }

        /** A type's place in the numbers of CLASSES; 0 if it is no type. */
        static long weightOf(int type) {
            switch (type) {
                case -6:
                    return 1000000000L;
                case -4:
                    return 100000000L;
                case -3:
                    return 10000000L;
                case -2:
                    return 1000000L;
                case -1:
                    return 100000L;
                case 1:
                    return 10000L;
                case 2:
                    return 1000L;
                case 3:
                    return 100L;
                case 4:
                    return 10L;
                case 6:
                    return 1L;
                default:
                    return 0L;
            }
        }

        static int classOf(long weights) {
            for (int i = 0; i < CLASSES.length; i++) {
                if (CLASSES[i] == weights) {
                    return i + 1;
                }
            }
            return NONE;
        }

        static int commonDivisor(int a, int b) {
            int x = a < 0 ? -a : a;
            int y = b < 0 ? -b : b;
            for (int i = 0; i < 100 && y != 0; i++) {
                int rest = x % y;
                x = y;
                y = rest;
            }
            return x;
        }
    }

    /** What a text says: generators, or its fault. */
    private static final class Generators {
        final int[] rows = new int[GENERATOR_LIMIT * 9];
        final int[] codes = new int[GENERATOR_LIMIT];
        int count;
        int fault;
        int place = NONE;

        void clear() {
            count = 0;
            fault = 0;
            place = NONE;
        }

        /** Always false, so that a reader can end with it. */
        boolean fail(int kind, int at) {
            count = 0;
            fault = kind;
            place = at;
            return false;
        }

        void add(int[] matrix, int code) {
            if (count < GENERATOR_LIMIT) {
                System.arraycopy(matrix, 0, rows, count * 9, 9);
                codes[count] = code;
                count++;
            }
        }

        void shiftOrigin(int code) {
            int twice = Algebra.sum(code, code);
            for (int i = 0; i < count; i++) {
                int away = Algebra.difference(twice, Algebra.moved(rows, i * 9, twice));
                codes[i] = Algebra.sum(codes[i], away);
            }
        }
    }

    /** Reads triples of sums from the tape. */
    private static final class TripleReader {
        private final int[] tape;
        private final Generators made;
        private final int[] matrix = new int[9];
        private final int[] moves = new int[3];
        private boolean numbered;
        private int length;
        private int at;

        TripleReader(int[] tape, Generators made) {
            this.tape = tape;
            this.made = made;
        }

        void readTriples(int n) {
            length = Math.min(n, tape.length);
            at = 0;
            boolean more = true;
            for (int i = 0; more && i <= TRIPLE_LIMIT; i++) {
                more = readTriple(i) && goesOn();
            }
        }

        private boolean goesOn() {
            int token = token();
            if (token == END) {
                return false;
            }
            if (token != ';') {
                return made.fail(SYNTAX, at);
            }
            at++;
            return true;
        }

        private boolean readTriple(int number) {
            int token = token();
            int first = at;
            if (!isSign(token) && !isLetter(token) && token != DIGITS) {
                return made.fail(SYNTAX, at);
            }
            if (number >= TRIPLE_LIMIT) {
                return made.fail(MANY_TRIPLES, first);
            }
            for (int row = 0; row < 3; row++) {
                if (row > 0 && !readComma() || !readSum(row)) {
                    return false;
                }
            }
            int determinant = Algebra.determinant(matrix, 0);
            if (determinant != 1 && determinant != -1) {
                return made.fail(DETERMINANT, first);
            }
            made.add(matrix, Algebra.encode(moves[0], moves[1], moves[2]));
            return true;
        }

        private boolean readComma() {
            if (token() != ',') {
                return made.fail(SYNTAX, at);
            }
            at++;
            return true;
        }

        private boolean readSum(int row) {
            for (int k = 0; k < 3; k++) {
                matrix[row * 3 + k] = 0;
            }
            moves[row] = 0;
            numbered = false;
            int sign = readSign();
            for (int i = 0; i <= length; i++) {
                boolean taken = token() == DIGITS ? readMove(row, sign) : readLetter(row, sign);
                if (!taken) {
                    return false;
                }
                if (!isSign(token())) {
                    return true;
                }
                sign = readSign();
            }
            return true;
        }

        private int readSign() {
            int token = token();
            if (isSign(token)) {
                at++;
            }
            return token == '-' ? -1 : 1;
        }

        private boolean readLetter(int row, int sign) {
            int token = token();
            if (!isLetter(token)) {
                return made.fail(SYNTAX, at);
            }
            int k = row * 3 + token - 'x';
            if (matrix[k] != 0) {
                return made.fail(TWICE, at);
            }
            matrix[k] = sign;
            at++;
            return true;
        }

        private boolean readMove(int row, int sign) {
            if (numbered) {
                return made.fail(TWICE, at);
            }
            numbered = true;
            int above = readNumber();
            int below = 1;
            if (token() == '/') {
                at++;
                if (token() != DIGITS) {
                    return made.fail(SYNTAX, at);
                }
                int place = at;
                below = readNumber();
                if (below < 1 || 24 % below != 0) {
                    return made.fail(PARTS, place);
                }
            }
            moves[row] = sign * above * (24 / below);
            return true;
        }

        private int readNumber() {
            int value = 0;
            int end = at + digitsHere();
            while (at < end) {
                value = value * 10 + tape[at] - '0';
                at++;
            }
            return value;
        }

        /** The token that comes next, at its first byte then: itself, DIGITS, END or BAD. */
        private int token() {
            while (at < length && tape[at] == ' ') {
                at++;
            }
            if (at >= length) {
                return END;
            }
            int c = tape[at];
            int digits = digitsHere();
            if (digits > 0) {
                return digits <= 2 ? DIGITS : BAD;
            }
            boolean known = isSign(c) || isLetter(c) || c == ',' || c == ';' || c == '/';
            return known ? c : BAD;
        }

        private int digitsHere() {
            int end = at;
            while (end < length && tape[end] >= '0' && tape[end] <= '9') {
                end++;
            }
            return end - at;
        }

        private static boolean isSign(int c) {
            return c == '+' || c == '-';
        }

        private static boolean isLetter(int c) {
            return c >= 'x' && c <= 'z';
        }
    }

    /** Reads a symbol after Hall from the tape. */
    private static final class SymbolReader {
        private final int[] tape;
        private final Generators made;
        private final int[] matrix = new int[9];
        private final int[] moves = new int[3];
        private final int[] shift = new int[3];
        private int rotations;
        private int turnAhead;
        private int axisAhead;
        private boolean shifted;
        private int length;
        private int at;

        SymbolReader(int[] tape, Generators made) {
            this.tape = tape;
            this.made = made;
        }

        void readSymbol(int n) {
            length = Math.min(n, tape.length);
            at = 0;
            rotations = 0;
            turnAhead = 0;
            axisAhead = 'z';
            shifted = false;
            skipBlanks();
            boolean more = readLattice();
            for (int i = 0; more && i <= length; i++) {
                more = readWord();
            }
            if (shifted && made.fault == 0) {
                made.shiftOrigin(Algebra.encode(shift[0], shift[1], shift[2]));
            }
        }

        private void skipBlanks() {
            while (at < length && tape[at] == ' ') {
                at++;
            }
        }

        private int here() {
            return at < length ? tape[at] : END;
        }

        private boolean readMinus() {
            if (here() != '-') {
                return false;
            }
            at++;
            return true;
        }

        private boolean readLattice() {
            boolean inverted = readMinus();
            if (!addLattice(here())) {
                return made.fail(SYNTAX, at);
            }
            if (inverted) {
                made.add(INVERSION, 0);
            }
            at++;
            return true;
        }

        private boolean addLattice(int c) {
            boolean all = c == 'F';
            if (c == 'A' || all) {
                made.add(IDENTITY, Algebra.encode(0, 12, 12));
            }
            if (c == 'B' || all) {
                made.add(IDENTITY, Algebra.encode(12, 0, 12));
            }
            if (c == 'C' || all) {
                made.add(IDENTITY, Algebra.encode(12, 12, 0));
            }
            if (c == 'I') {
                made.add(IDENTITY, Algebra.encode(12, 12, 12));
            }
            if (c == 'R') {
                made.add(IDENTITY, Algebra.encode(16, 8, 8));
                made.add(IDENTITY, Algebra.encode(8, 16, 16));
            }
            return c == 'P' || made.count > 0;
        }

        /** False at the text's end and at a fault. */
        private boolean readWord() {
            if (at >= length) {
                return false;
            }
            if (tape[at] != ' ') {
                return made.fail(SYNTAX, at);
            }
            skipBlanks();
            int c = here();
            if (c == END) {
                return false;
            }
            if (shifted) {
                return made.fail(SYNTAX, at);
            }
            if (c == '(') {
                return readShift();
            }
            if (c != '-' && rotationNumber(c - '0') == NONE) {
                return made.fail(SYNTAX, at);
            }
            if (rotations >= ROTATION_LIMIT) {
                return made.fail(MANY_ROTATIONS, at);
            }
            return readRotation();
        }

        private boolean readRotation() {
            boolean inverted = readMinus();
            int turn = here() - '0';
            if (rotationNumber(turn) == NONE) {
                return made.fail(SYNTAX, at);
            }
            at++;
            int axis = readAxis(turn);
            if (axis == BAD || !readMoves(turn, axis)) {
                return false;
            }
            setMatrix(turn, axis, inverted ? -1 : 1);
            made.add(matrix, Algebra.encode(moves[0], moves[1], moves[2]));
            rotations++;
            turnAhead = turn;
            axisAhead = axis;
            return true;
        }

        private int readAxis(int turn) {
            int c = here();
            if (!isStraight(c) && !isQuote(c) && c != '*') {
                return axisUntold(turn);
            }
            if (isQuote(c) && turn != 2 || c == '*' && turn != 3) {
                made.fail(WRONG_AXIS, at);
                return BAD;
            }
            at++;
            return c;
        }

        private int axisUntold(int turn) {
            if (turn == 2 && rotations == 1) {
                if (turnAhead == 2 || turnAhead == 4) {
                    return 'x';
                }
                return turnAhead == 3 || turnAhead == 6 ? '\'' : 'z';
            }
            return turn == 3 && rotations == 2 ? '*' : 'z';
        }

        private boolean readMoves(int turn, int axis) {
            boolean screwed = false;
            moves[0] = 0;
            moves[1] = 0;
            moves[2] = 0;
            while (at < length && tape[at] != ' ') {
                int c = tape[at];
                if (c >= '1' && c <= '5' && !screwed) {
                    int k = c - '0';
                    if (turn < 1 || k >= turn || !isStraight(axis)) {
                        return made.fail(SCREW, at);
                    }
                    moves[axis - 'x'] += 24 / turn * k;
                    screwed = true;
                } else if (!addMove(c)) {
                    return made.fail(SYNTAX, at);
                }
                at++;
            }
            return true;
        }

        private boolean addMove(int c) {
            if (c == 'n' || c == 'd') {
                for (int k = 0; k < 3; k++) {
                    moves[k] += c == 'n' ? 12 : 6;
                }
                return true;
            }
            if (c >= 'a' && c <= 'c') {
                moves[c - 'a'] += 12;
                return true;
            }
            if (c >= 'u' && c <= 'w') {
                moves[c - 'u'] += 6;
                return true;
            }
            return false;
        }

        private void setMatrix(int turn, int axis, int sign) {
            int kind = rotationNumber(turn);
            int along = axis;
            if (isQuote(axis)) {
                kind = axis == '\'' ? 5 : 6;
                along = axisAhead;
            } else if (axis == '*') {
                kind = 7;
            }
            int from = along == 'x' ? 2 : along == 'y' ? 1 : 0;
            for (int r = 0; r < 3; r++) {
                for (int c = 0; c < 3; c++) {
                    matrix[r * 3 + c] = sign * ROTATIONS[kind * 9 + (r + from) % 3 * 3 + (c + from) % 3];
                }
            }
        }

        private boolean readShift() {
            at++;
            for (int k = 0; k < 3; k++) {
                if (k > 0) {
                    if (here() != ' ') {
                        return made.fail(SYNTAX, at);
                    }
                    skipBlanks();
                }
                if (!readTwelfths(k)) {
                    return made.fail(SYNTAX, at);
                }
            }
            if (here() != ')') {
                return made.fail(SYNTAX, at);
            }
            at++;
            shifted = true;
            return true;
        }

        private boolean readTwelfths(int k) {
            int sign = readMinus() ? -1 : 1;
            int value = here() - '0';
            if (value < 0 || value > 9) {
                return false;
            }
            at++;
            int digit = here() - '0';
            if (digit >= 0 && digit <= 9) {
                value = value * 10 + digit;
                if (value > 11) {
                    return false;
                }
                at++;
            }
            shift[k] = sign * value;
            return true;
        }

        private static boolean isStraight(int axis) {
            return axis >= 'x' && axis <= 'z';
        }

        private static boolean isQuote(int axis) {
            return axis == '\'' || axis == '"';
        }

        private static int rotationNumber(int turn) {
            if (turn >= 1 && turn <= 4) {
                return turn - 1;
            }
            return turn == 6 ? 4 : NONE;
        }
    }

    /** A group in the making: its matrices in any order, a translation of each, and the pure translations. */
    private static final class Draft {
        final int[] rows = new int[MATRIX_LIMIT * 9];
        final int[] firsts = new int[MATRIX_LIMIT];
        final int[] pures = new int[OPERATOR_LIMIT];
        /** How far products are from the kept operator of their matrix: by Schreier's lemma, enough for all pures. */
        private final int[] gaps = new int[MATRIX_LIMIT * GENERATOR_LIMIT];
        private final int[] half = new int[9];
        private final int[] work = new int[9];
        private int gapCount;
        int matrices;
        int pure;

        private void clear() {
            matrices = 0;
            pure = 0;
            gapCount = 0;
        }

        private boolean addMatrix(int[] from, int at, int code) {
            if (matrices >= MATRIX_LIMIT) {
                return false;
            }
            System.arraycopy(from, at, rows, matrices * 9, 9);
            firsts[matrices] = code;
            matrices++;
            return true;
        }

        private void addPure(int code) {
            if (pure < OPERATOR_LIMIT) {
                pures[pure] = code;
                pure++;
            }
        }

        private int numberOf(int[] m) {
            for (int i = 0; i < matrices; i++) {
                if (Algebra.order(rows, i * 9, m, 0) == 0) {
                    return i;
                }
            }
            return NONE;
        }

        /** How many matrices come ahead of one in the document's order. */
        int rankOf(int number) {
            int rank = 0;
            for (int i = 0; i < matrices; i++) {
                if (Algebra.order(rows, i * 9, rows, number * 9) < 0) {
                    rank++;
                }
            }
            return rank;
        }

        int generate(Generators g) {
            clear();
            addMatrix(IDENTITY, 0, 0);
            addPure(0);
            if (!spreadMatrices(g)) {
                return INFINITE;
            }
            return gatherPures() ? matrices * pure : FULL;
        }

        private boolean spreadMatrices(Generators g) {
            for (int i = 0; i < matrices && i < MATRIX_LIMIT; i++) {
                for (int j = 0; j < g.count; j++) {
                    Algebra.multiply(rows, i * 9, g.rows, j * 9, work);
                    int code = Algebra.sum(Algebra.moved(rows, i * 9, g.codes[j]), firsts[i]);
                    int known = numberOf(work);
                    if (known != NONE) {
                        addGap(Algebra.difference(code, firsts[known]));
                    } else if (!Algebra.isModest(work) || !addMatrix(work, 0, code)) {
                        return false;
                    }
                }
            }
            return true;
        }

        private void addGap(int code) {
            if (gapCount < gaps.length) {
                gaps[gapCount] = code;
                gapCount++;
            }
        }

        private boolean gatherPures() {
            for (int i = 0; i < gapCount; i++) {
                if (!extendPures(gaps[i])) {
                    return false;
                }
            }
            return true;
        }

        private boolean extendPures(int code) {
            int base = pure;
            int step = code;
            for (int i = 0; i < 24 && !holdsPure(step); i++) {
                if ((pure + base) * matrices > OPERATOR_LIMIT) {
                    return false;
                }
                for (int k = 0; k < base; k++) {
                    addPure(Algebra.sum(pures[k], step));
                }
                step = Algebra.sum(step, code);
            }
            return true;
        }

        private boolean holdsPure(int code) {
            for (int i = 0; i < pure; i++) {
                if (pures[i] == code) {
                    return true;
                }
            }
            return false;
        }

        void meet(Group a, Group b) {
            clear();
            for (int k = 0; k < a.pure; k++) {
                int code = a.pureCode(k);
                if (b.codeNumber(b.unit, code) != NONE) {
                    addPure(code);
                }
            }
            for (int m = 0; m < a.matrices; m++) {
                int n = b.matrixNumber(a.rows, m * 9);
                boolean met = n == NONE;
                for (int k = 0; k < a.pure && !met; k++) {
                    int code = a.codes[m * a.pure + k];
                    met = b.codeNumber(n, code) != NONE;
                    if (met) {
                        addMatrix(a.rows, m * 9, code);
                    }
                }
            }
        }

        /** False if what is chosen is no group: all of a matrix's operators come together, so matrices tell. */
        boolean choose(Group g, int which, int t) {
            clear();
            for (int a = 0; a < g.matrices; a++) {
                if (isChosen(g.types[a], which, t)) {
                    for (int b = 0; b < g.matrices; b++) {
                        int ab = g.matrixAfter(a, b);
                        if (isChosen(g.types[b], which, t) && (ab == NONE || !isChosen(g.types[ab], which, t))) {
                            return false;
                        }
                    }
                    addMatrix(g.rows, a * 9, g.codes[a * g.pure]);
                }
            }
            for (int k = 0; k < g.pure; k++) {
                addPure(g.pureCode(k));
            }
            return true;
        }

        private static boolean isChosen(int type, int which, int t) {
            if (which == 0) {
                return type > 0;
            }
            return type == 1 || which == 2 && type == t;
        }

        /** False if a number would be too great. */
        boolean carry(Group g, Basis frame, boolean back) {
            clear();
            int[] left = back ? frame.inverse : frame.matrix;
            int[] right = back ? frame.matrix : frame.inverse;
            int origin = frame.originCode();
            for (int m = 0; m < g.matrices; m++) {
                Algebra.multiply(left, 0, g.rows, m * 9, half);
                Algebra.multiply(half, 0, right, 0, work);
                if (!Algebra.isModest(work)) {
                    return false;
                }
                int code = g.codes[m * g.pure];
                if (back) {
                    int away = Algebra.difference(Algebra.moved(g.rows, m * 9, origin), origin);
                    code = Algebra.moved(left, 0, Algebra.sum(code, away));
                } else {
                    int away = Algebra.difference(origin, Algebra.moved(work, 0, origin));
                    code = Algebra.sum(Algebra.moved(left, 0, code), away);
                }
                addMatrix(work, 0, code);
            }
            for (int k = 0; k < g.pure; k++) {
                addPure(Algebra.moved(left, 0, g.pureCode(k)));
            }
            return true;
        }
    }

    /**
     * A group modulo the lattice. Each of its matrices stands with equally many translations, so operator i has
     * matrix i / pure.
     */
    private static final class Group {
        final int[] rows = new int[MATRIX_LIMIT * 9];
        final int[] types = new int[MATRIX_LIMIT];
        final int[] codes = new int[OPERATOR_LIMIT];
        private final int[] table = new int[MATRIX_LIMIT * MATRIX_LIMIT];
        private final int[] work = new int[9];
        int matrices;
        int pure;
        int unit;
        private boolean tabled;

        void settle(Draft d) {
            matrices = d.matrices;
            pure = d.pure;
            for (int a = 0; a < matrices; a++) {
                int rank = d.rankOf(a);
                System.arraycopy(d.rows, a * 9, rows, rank * 9, 9);
                types[rank] = Algebra.typeOf(rows, rank * 9);
                settleCodes(d, d.firsts[a], rank * pure);
            }
            unit = matrixNumber(IDENTITY, 0);
            tabled = false;
        }

        private void settleCodes(Draft d, int first, int start) {
            for (int k = 0; k < pure; k++) {
                int code = Algebra.sum(first, d.pures[k]);
                int j = start + k;
                while (j > start && codes[j - 1] > code) {
                    codes[j] = codes[j - 1];
                    j--;
                }
                codes[j] = code;
            }
        }

        private void fillTable() {
            for (int a = 0; a < matrices; a++) {
                for (int b = 0; b < matrices; b++) {
                    Algebra.multiply(rows, a * 9, rows, b * 9, work);
                    table[a * MATRIX_LIMIT + b] = matrixNumber(work, 0);
                }
            }
            tabled = true;
        }

        int order() {
            return matrices * pure;
        }

        boolean hasOperator(int i) {
            return i >= 0 && i < matrices * pure;
        }

        int matrixOf(int i) {
            return pure > 0 ? i / pure : 0;
        }

        int pureCode(int k) {
            return unit >= 0 ? codes[unit * pure + k] : 0;
        }

        int matrixNumber(int[] m, int at) {
            int low = 0;
            int high = matrices - 1;
            while (low <= high) {
                int middle = (low + high) / 2;
                int order = Algebra.order(rows, middle * 9, m, at);
                if (order == 0) {
                    return middle;
                }
                if (order < 0) {
                    low = middle + 1;
                } else {
                    high = middle - 1;
                }
            }
            return NONE;
        }

        int codeNumber(int matrix, int code) {
            if (matrix < 0 || matrix >= matrices) {
                return NONE;
            }
            int low = matrix * pure;
            int high = low + pure - 1;
            while (low <= high) {
                int middle = (low + high) / 2;
                if (codes[middle] == code) {
                    return middle;
                }
                if (codes[middle] < code) {
                    low = middle + 1;
                } else {
                    high = middle - 1;
                }
            }
            return NONE;
        }

        int numberIn(Group from, int i) {
            return codeNumber(matrixNumber(from.rows, from.matrixOf(i) * 9), from.codes[i]);
        }

        /** The table is made when it is first asked for: most groups are never multiplied. */
        int matrixAfter(int a, int b) {
            if (!tabled) {
                fillTable();
            }
            return table[a * MATRIX_LIMIT + b];
        }

        int after(int i, int j) {
            int a = matrixOf(i);
            int code = Algebra.sum(Algebra.moved(rows, a * 9, codes[j]), codes[i]);
            return codeNumber(matrixAfter(a, matrixOf(j)), code);
        }

        int inverseOf(int i) {
            int a = matrixOf(i);
            for (int b = 0; b < matrices; b++) {
                if (matrixAfter(a, b) == unit) {
                    return codeNumber(b, Algebra.difference(0, Algebra.moved(rows, b * 9, codes[i])));
                }
            }
            return NONE;
        }

        int exchangedWith(int i) {
            int a = matrixOf(i);
            int count = 0;
            for (int b = 0; b < matrices; b++) {
                if (matrixAfter(a, b) == matrixAfter(b, a)) {
                    int due = Algebra.difference(codes[i], Algebra.moved(rows, b * 9, codes[i]));
                    for (int k = b * pure; k < (b + 1) * pure; k++) {
                        if (Algebra.difference(codes[k], Algebra.moved(rows, a * 9, codes[k])) == due) {
                            count++;
                        }
                    }
                }
            }
            return count;
        }

        int centreSize() {
            int count = 0;
            for (int i = 0; i < order(); i++) {
                if (exchangedWith(i) == order()) {
                    count++;
                }
            }
            return count;
        }

        /** A set's operators are together exchanged with as many as the group has, so the sum tells the sets. */
        int conjugateSets() {
            int pairs = 0;
            for (int i = 0; i < order(); i++) {
                pairs += exchangedWith(i);
            }
            return order() > 0 ? pairs / order() : 0;
        }

        int pointClass() {
            long weights = 0;
            for (int a = 0; a < matrices; a++) {
                weights += Algebra.weightOf(types[a]);
            }
            return Algebra.classOf(weights);
        }

        int traceSum() {
            int sum = 0;
            for (int a = 0; a < matrices; a++) {
                sum += Algebra.trace(rows, a * 9);
            }
            return sum;
        }

        boolean isProper() {
            for (int a = 0; a < matrices; a++) {
                if (types[a] < 0) {
                    return false;
                }
            }
            return true;
        }

        boolean holdsAll(Group other) {
            for (int i = 0; i < other.order(); i++) {
                if (numberIn(other, i) == NONE) {
                    return false;
                }
            }
            return true;
        }

        /** Each operator gets the number of its set o H; what is not in one yet begins the next set. */
        void markCosets(Group h, int[] marks) {
            for (int i = 0; i < order(); i++) {
                marks[i] = NONE;
            }
            int sets = 0;
            for (int i = 0; i < order(); i++) {
                if (marks[i] == NONE) {
                    markCoset(h, marks, i, sets);
                    sets++;
                }
            }
        }

        private void markCoset(Group h, int[] marks, int i, int set) {
            for (int j = 0; j < h.order(); j++) {
                int own = numberIn(h, j);
                int moved = hasOperator(own) ? after(i, own) : NONE;
                if (hasOperator(moved)) {
                    marks[moved] = set;
                }
            }
        }

        /** One operator of each set o H, as they are marked, is enough: with it, all of its set do alike. */
        boolean hasNormal(Group h, int[] marks) {
            int sets = 0;
            for (int i = 0; i < order(); i++) {
                if (marks[i] == sets) {
                    sets++;
                    if (!leaves(h, i)) {
                        return false;
                    }
                }
            }
            return true;
        }

        private boolean leaves(Group h, int i) {
            int back = inverseOf(i);
            for (int j = 0; j < h.order(); j++) {
                int own = numberIn(h, j);
                if (!hasOperator(back) || !hasOperator(own)) {
                    return false;
                }
                int led = after(i, own);
                led = hasOperator(led) ? after(led, back) : NONE;
                if (!hasOperator(led) || h.numberIn(this, led) == NONE) {
                    return false;
                }
            }
            return true;
        }
    }

    /** What one operator is. */
    private static final class Nature {
        final int[] axis = new int[3];
        final int[] pitch = new int[3];
        private final int[] proper = new int[9];
        private final int[] rest = new int[9];
        int type;
        int turns;
        int order;
        int sense;

        void look(int[] m, int at, int code) {
            type = Algebra.typeOf(m, at);
            turns = type > 0 ? type : type % 2 == 0 ? -type : -2 * type;
            findPitch(m, at, code);
            findOrder();
            for (int k = 0; k < 9; k++) {
                proper[k] = type > 0 ? m[at + k] : -m[at + k];
                rest[k] = proper[k] - IDENTITY[k];
            }
            findAxis();
            findSense();
        }

        boolean fixes() {
            return pitch[0] == 0 && pitch[1] == 0 && pitch[2] == 0;
        }

        private void findPitch(int[] m, int at, int code) {
            int x = Algebra.shareOf(code, 0);
            int y = Algebra.shareOf(code, 1);
            int z = Algebra.shareOf(code, 2);
            pitch[0] = 0;
            pitch[1] = 0;
            pitch[2] = 0;
            for (int i = 0; i < turns; i++) {
                pitch[0] += x;
                pitch[1] += y;
                pitch[2] += z;
                int nextX = Algebra.rowTimes(m, at, x, y, z);
                int nextY = Algebra.rowTimes(m, at + 3, x, y, z);
                z = Algebra.rowTimes(m, at + 6, x, y, z);
                x = nextX;
                y = nextY;
            }
        }

        private void findOrder() {
            int times = 1;
            while (times < 24 && Algebra.encode(times * pitch[0], times * pitch[1], times * pitch[2]) != 0) {
                times++;
            }
            order = turns * times;
        }

        /** What is across two rows of R - 1 is left by R; with the axis alone left, some two rows tell it. */
        private void findAxis() {
            boolean found = false;
            for (int r = 0; r < 3 && !found; r++) {
                for (int c = 0; c < 3; c++) {
                    axis[c] = Algebra.cofactor(rest, 0, r, c);
                    found = found || axis[c] != 0;
                }
            }
            int divisor = Algebra.commonDivisor(Algebra.commonDivisor(axis[0], axis[1]), axis[2]);
            int first = axis[0] != 0 ? axis[0] : axis[1] != 0 ? axis[1] : axis[2];
            if (divisor > 0) {
                for (int c = 0; c < 3; c++) {
                    axis[c] = axis[c] / divisor * (first < 0 ? -1 : 1);
                }
            }
        }

        private void findSense() {
            sense = 0;
            for (int e = 0; e < 3 && sense == 0 && turns > 2; e++) {
                int next = (e + 1) % 3;
                int far = (e + 2) % 3;
                long volume = (long) axis[far] * proper[next * 3 + e] - (long) axis[next] * proper[far * 3 + e];
                sense = volume > 0 ? 1 : volume < 0 ? -1 : 0;
            }
        }
    }

    /** The basis and the origin of turn(). */
    private static final class Basis {
        final int[] matrix = {1, 0, 0, 0, 1, 0, 0, 0, 1};
        final int[] inverse = new int[9];
        private final int[] origin = new int[3];

        boolean put(int k, int v) {
            if (k >= 0 && k < 9 && within(v, 9)) {
                matrix[k] = v;
                return true;
            }
            if (k >= 9 && k < 12 && v >= 0 && v < 24) {
                origin[k - 9] = v;
                return true;
            }
            return false;
        }

        int originCode() {
            return Algebra.encode(origin[0], origin[1], origin[2]);
        }

        /** False if the inverse is not of whole numbers. */
        boolean invert() {
            int determinant = Algebra.determinant(matrix, 0);
            if (determinant != 1 && determinant != -1) {
                return false;
            }
            for (int r = 0; r < 3; r++) {
                for (int c = 0; c < 3; c++) {
                    inverse[r * 3 + c] = determinant * Algebra.cofactor(matrix, 0, c, r);
                }
            }
            return true;
        }
    }

    /** A metric and what the matrices of a group make of it. */
    private static final class Metric {
        final long[] sums = new long[6];
        private final int[] told = new int[6];
        private final long[] full = new long[9];

        /** False, and nothing is changed, if a number is out of range. */
        boolean put(int a, int b, int c, int d, int e, int f) {
            boolean fits = within(a, METRIC_LIMIT) && within(b, METRIC_LIMIT) && within(c, METRIC_LIMIT);
            if (!fits || !within(d, METRIC_LIMIT) || !within(e, METRIC_LIMIT) || !within(f, METRIC_LIMIT)) {
                return false;
            }
            told[0] = a;
            told[1] = b;
            told[2] = c;
            told[3] = d;
            told[4] = e;
            told[5] = f;
            for (int k = 0; k < 6; k++) {
                full[METRIC_ROWS[k] * 3 + METRIC_COLUMNS[k]] = told[k];
                full[METRIC_COLUMNS[k] * 3 + METRIC_ROWS[k]] = told[k];
            }
            return true;
        }

        boolean measure(Group g) {
            boolean left = true;
            for (int k = 0; k < 6; k++) {
                sums[k] = 0;
                for (int a = 0; a < g.matrices; a++) {
                    long value = carried(g.rows, a * 9, METRIC_ROWS[k], METRIC_COLUMNS[k]);
                    sums[k] += value;
                    left = left && value == told[k];
                }
            }
            return left;
        }

        private long carried(int[] m, int at, int i, int j) {
            long value = 0;
            for (int p = 0; p < 3; p++) {
                for (int q = 0; q < 3; q++) {
                    value += m[at + p * 3 + i] * full[p * 3 + q] * m[at + q * 3 + j];
                }
            }
            return value;
        }
    }

    /** The latest orbit. A place is kept as one number, so that their order is the document's. */
    private static final class Points {
        private final long[] keys = new long[OPERATOR_LIMIT];
        final int[] stabiliser = new int[OPERATOR_LIMIT];
        private final int[] point = new int[3];
        int places;
        int staying;
        int siteClass;
        int free;
        int parts;

        void spread(Group g, int a, int b, int c, int d) {
            places = 0;
            staying = 0;
            parts = 24 * Math.max(d, 1);
            point[0] = Math.floorMod(24 * a, parts);
            point[1] = Math.floorMod(24 * b, parts);
            point[2] = Math.floorMod(24 * c, parts);
            long own = ownKey();
            long weights = 0;
            int traces = 0;
            for (int i = 0; i < g.order(); i++) {
                int m = g.matrixOf(i);
                long key = keyOf(g.rows, m * 9, g.codes[i], d);
                insert(key);
                if (key == own && staying < OPERATOR_LIMIT) {
                    stabiliser[staying] = i;
                    staying++;
                    weights += Algebra.weightOf(g.types[m]);
                    traces += Algebra.trace(g.rows, m * 9);
                }
            }
            siteClass = Algebra.classOf(weights);
            free = staying > 0 ? traces / staying : 0;
        }

        int ownPlace() {
            return positionOf(ownKey());
        }

        int coordinate(int i, int k) {
            long key = keys[i];
            if (k == 0) {
                return (int) (key / (PLACE_BASE * PLACE_BASE));
            }
            return (int) (k == 1 ? key / PLACE_BASE % PLACE_BASE : key % PLACE_BASE);
        }

        private long ownKey() {
            return (point[0] * PLACE_BASE + point[1]) * PLACE_BASE + point[2];
        }

        private long keyOf(int[] m, int at, int code, int d) {
            long key = 0;
            for (int r = 0; r < 3; r++) {
                int led = Algebra.rowTimes(m, at + r * 3, point[0], point[1], point[2]);
                int moved = Algebra.shareOf(code, r) * d;
                key = key * PLACE_BASE + (parts > 0 ? Math.floorMod(led + moved, parts) : 0);
            }
            return key;
        }

        /** Where a key stands, or where it has to be put. */
        private int positionOf(long key) {
            int low = 0;
            int high = places;
            while (low < high) {
                int middle = (low + high) / 2;
                if (keys[middle] < key) {
                    low = middle + 1;
                } else {
                    high = middle;
                }
            }
            return low;
        }

        private void insert(long key) {
            int position = positionOf(key);
            if (position < places && keys[position] == key || places >= OPERATOR_LIMIT) {
                return;
            }
            for (int i = places; i > position; i--) {
                keys[i] = keys[i - 1];
            }
            keys[position] = key;
            places++;
        }
    }

    /** What a group does to reflections. */
    private static final class Reflections {
        private static boolean leads(Group g, int matrix, int h, int k, int l, int sign) {
            int at = matrix * 9;
            return Algebra.columnTimes(g.rows, at, h, k, l) == sign * h
                && Algebra.columnTimes(g.rows, at + 1, h, k, l) == sign * k
                && Algebra.columnTimes(g.rows, at + 2, h, k, l) == sign * l;
        }

        private static int phase(int code, int h, int k, int l) {
            int turned = h * Algebra.shareOf(code, 0) + k * Algebra.shareOf(code, 1) + l * Algebra.shareOf(code, 2);
            return Math.floorMod(turned, 24);
        }

        static boolean isAbsent(Group g, int h, int k, int l) {
            for (int i = 0; i < g.pure; i++) {
                if (phase(g.pureCode(i), h, k, l) != 0) {
                    return true;
                }
            }
            // with all pure translations at 0, the operators of one matrix have one phase
            for (int a = 0; a < g.matrices; a++) {
                if (phase(g.codes[a * g.pure], h, k, l) != 0 && leads(g, a, h, k, l, 1)) {
                    return true;
                }
            }
            return false;
        }

        static int countLeading(Group g, int h, int k, int l, int sign) {
            int count = 0;
            for (int a = 0; a < g.matrices; a++) {
                if (leads(g, a, h, k, l, sign)) {
                    count++;
                }
            }
            return count;
        }

        static int countAlike(Group g, int h, int k, int l) {
            int leading = countLeading(g, h, k, l, 1);
            return leading > 0 ? g.matrices / leading : 0;
        }

        static int countWithFriedel(Group g, int h, int k, int l) {
            boolean centric = countLeading(g, h, k, l, -1) > 0;
            return countAlike(g, h, k, l) * (centric ? 1 : 2);
        }

        static int turningPhase(Group g, int h, int k, int l) {
            if (isAbsent(g, h, k, l)) {
                return NONE;
            }
            for (int a = 0; a < g.matrices; a++) {
                if (leads(g, a, h, k, l, -1)) {
                    return phase(g.codes[a * g.pure], h, k, l);
                }
            }
            return NONE;
        }

        /** The first half of all, in order, is the second half turned round, and these are absent together. */
        static int countAbsent(Group g, int n) {
            int side = 2 * n + 1;
            int count = 0;
            for (int i = 0; side > 0 && i < side * side * side / 2; i++) {
                if (isAbsent(g, i / (side * side) - n, i / side % side - n, i % side - n)) {
                    count += 2;
                }
            }
            return count;
        }
    }
}
