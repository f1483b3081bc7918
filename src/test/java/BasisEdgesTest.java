/** The edges of promises 17 to 20. The document's words stand above each test. */
public final class BasisEdgesTest {
    private static final int[] NO_SLOTS = {-1, 2, 5, 6, Integer.MIN_VALUE, Integer.MAX_VALUE};

    public static void main(String[] args) {
        numbersOfTheBasis();
        numbersOfTheOrigin();
        noSuchNumber();
        refusedNumbersChangeNothing();
        identityAtFirst();
        determinants();
        beyond999();
        roundFrom24();
        sameAndOtherSlots();
        turnsThatLack();
        whichGoesFirst();
        numbersOfAMetric();
        leftByAll();
        metricsThatLack();
        aheadOfAnyMetric();
        noSuchMean();
        latestMetric();
        sumOverMatrices();
        largeSums();
        Check.end();
    }

    private static SymmetryHouse symbols(String... texts) {
        SymmetryHouse x = new SymmetryHouse();
        for (int i = 0; i < texts.length; i++) {
            boolean triples = texts[i].indexOf(',') >= 0;
            int answer = triples ? Check.triples(x, i, texts[i]) : Check.symbol(x, i, texts[i]);
            Check.due("read of <" + texts[i] + "> is above 0", answer > 0, true);
        }
        return x;
    }

    private static void put(SymmetryHouse x, int... numbers) {
        for (int k = 0; k < numbers.length; k++) {
            Check.due("basis(" + k + ", " + numbers[k] + ")", x.basis(k, numbers[k]), true);
        }
    }

    /** "False .. if v is not -9 .. 9". */
    private static void numbersOfTheBasis() {
        for (int k = 0; k < 9; k++) {
            SymmetryHouse x = new SymmetryHouse();
            for (int v : new int[] {-10, 10, 23, 24, Integer.MIN_VALUE, Integer.MAX_VALUE}) {
                Check.due("basis(" + k + ", " + v + ")", x.basis(k, v), false);
            }
            for (int v = -9; v <= 9; v++) {
                Check.due("basis(" + k + ", " + v + ")", x.basis(k, v), true);
            }
        }
    }

    /** "(of THE ORIGIN 0 .. 23)". */
    private static void numbersOfTheOrigin() {
        for (int k = 9; k < 12; k++) {
            SymmetryHouse x = new SymmetryHouse();
            for (int v : new int[] {-9, -1, 24, 25, Integer.MIN_VALUE, Integer.MAX_VALUE}) {
                Check.due("basis(" + k + ", " + v + ")", x.basis(k, v), false);
            }
            for (int v = 0; v <= 23; v++) {
                Check.due("basis(" + k + ", " + v + ")", x.basis(k, v), true);
            }
        }
    }

    /** "Or there is no such k". */
    private static void noSuchNumber() {
        SymmetryHouse x = new SymmetryHouse();
        for (int k : new int[] {-1, -9, 12, 13, Integer.MIN_VALUE, Integer.MAX_VALUE}) {
            for (int v : new int[] {-9, 0, 1, 9, 23}) {
                Check.due("basis(" + k + ", " + v + ")", x.basis(k, v), false);
            }
        }
    }

    /** "False, and nothing is changed". */
    private static void refusedNumbersChangeNothing() {
        SymmetryHouse x = symbols("P 2yb", "x,y,z");
        put(x, 0, 0, 1, 1, 0, 0, 0, 1, 0, 1, 2, 3);
        x.turn(0, 1, false);
        for (int k = -1; k < 13; k++) {
            Check.due("basis(" + k + ", 24)", x.basis(k, 24), false);
            Check.due("basis(" + k + ", -10)", x.basis(k, -10), false);
        }
        Check.due("turn", x.turn(0, 2, false), 2);
        Check.due("as ahead", x.compare(1, 2), 3);
    }

    /** "(At first THE BASIS is the identity, THE ORIGIN 0 0 0.)" */
    private static void identityAtFirst() {
        for (String text : new String[] {"P", "-P 2ybc", "P 31", "F 4d 2 3 -1d"}) {
            for (boolean back : new boolean[] {false, true}) {
                SymmetryHouse x = symbols(text);
                Check.due("turn of " + text, x.turn(0, 1, back), x.group(0, 0));
                Check.due("the same as " + text, x.compare(0, 1), 3);
            }
        }
    }

    /** "-2, and nothing is done, if the determinant of P is neither 1 nor -1". */
    private static void determinants() {
        int[][] bases = {{1, 0, 0, 0, 1, 0, 0, 0, 1}, {-1, 0, 0, 0, -1, 0, 0, 0, -1}, {0, 1, 0, 1, 0, 0, 0, 0, 1},
            {9, 8, 0, 1, 1, 0, 0, 0, 1}, {1, 9, 9, 0, 1, -9, 0, 0, -1}, {0, 0, 0, 0, 0, 0, 0, 0, 0},
            {2, 0, 0, 0, 1, 0, 0, 0, 1}, {-2, 0, 0, 0, 1, 0, 0, 0, 1}, {1, 1, 0, -1, 1, 0, 0, 0, 1},
            {1, 2, 3, 4, 5, 6, 7, 8, 9}, {9, 0, 0, 0, 9, 0, 0, 0, 9}, {9, 9, -9, -9, 9, 9, 9, -9, 9}};
        for (int i = 0; i < bases.length; i++) {
            for (boolean back : new boolean[] {false, true}) {
                SymmetryHouse x = symbols("-P", "P 4");
                put(x, bases[i]);
                Check.due("basis " + i, x.turn(0, 1, back), i < 5 ? 2 : -2);
                Check.due("order then", x.group(1, 0), i < 5 ? 2 : 4);
            }
        }
    }

    /** "-3 if a number would be beyond -999 .. 999". */
    private static void beyond999() {
        turn("P 2x", -3, 4, 7, -9, 5, 8, 4, -2, -3, -6);
        turn("P -2x", -3, 4, 7, -9, 5, 8, 4, -2, -3, -6);
        turn("P -2x", -3, 7, 1, -8, -6, 7, 2, -5, -6, 9);
        turn("P 2x", -3, 6, 5, 5, 7, -7, 5, -9, 0, -7);
        turn("P -2x", 2, -3, -8, -4, 4, -9, 8, -5, 4, -9);
        turn("P 2x", 2, -3, -8, -4, 4, -9, 8, -5, 4, -9);
        turn("z,x,y", 3, 7, -6, -3, 3, 1, 2, -7, -6, -8);
        turn("P", 1, 4, 7, -9, 5, 8, 4, -2, -3, -6);
        turn("-F", 8, 4, 7, -9, 5, 8, 4, -2, -3, -6);
        SymmetryHouse x = symbols("P 2x");
        put(x, -3, -8, -4, 4, -9, 8, -5, 4, -9);
        x.turn(0, 1, false);
        boolean found = false;
        for (int k = 0; k < 9; k++) {
            found = found || x.operator(1, 0, k) == 999 || x.operator(1, 1, k) == 999;
        }
        Check.due("999 is in it", found, true);
        Check.due("again is beyond", x.turn(1, 2, false), -3);
        Check.due("no group", x.group(2, 0), -1);
        Check.due("back", x.turn(1, 2, true), 2);
        Check.due("as at first", x.compare(0, 2), 3);
    }

    private static void turn(String text, int want, int... basis) {
        SymmetryHouse x = symbols(text, "P 4");
        put(x, basis);
        Check.due("turn of " + text, x.turn(0, 1, false), want);
        Check.due("order then", x.group(1, 0), want < 0 ? 4 : want);
    }

    private static void turned(String text, boolean back, String want, int... basis) {
        SymmetryHouse x = symbols(text, want);
        put(x, basis);
        x.turn(0, 3, back);
        Check.due("turn of <" + text + "> is <" + want + ">", x.compare(1, 3), 3);
    }

    /** "P t + p - (P R P') p .. back: P' (t + R p - p)", round from 24 and from below 0. */
    private static void roundFrom24() {
        turned("-x,-y,-z", false, "-x+23/12,-y+1/12,-z", 1, 0, 0, 0, 1, 0, 0, 0, 1, 23, 1, 0);
        turned("-x,-y,-z", true, "-x-23/12,-y-1/12,-z", 1, 0, 0, 0, 1, 0, 0, 0, 1, 23, 1, 0);
        turned("x+23/24,y,z", false, "x+23/24,y+23/24,z", 1, 0, 0, 1, 1, 0, 0, 0, 1, 5, 6, 7);
        turned("x+23/24,y,z", true, "x+23/24,y+1/24,z", 1, 0, 0, 1, 1, 0, 0, 0, 1, 5, 6, 7);
        turned("x+1/24,y,z", false, "x+9/24,y+8/24,z+9/24", 9, 1, 0, 8, 1, 0, 9, 0, 1);
        turned("-y,x,z+1/4", false, "-y+46/24,x,z+1/4", 1, 0, 0, 0, 1, 0, 0, 0, 1, 23, 23, 5);
        turned("x,-y,-z", false, "-x+1/4,y,-z", 0, 0, 1, 1, 0, 0, 0, 1, 0, 3, 0, 0);
        turned("x,-y,-z", true, "-x,-y,z", 0, 0, 1, 1, 0, 0, 0, 1, 0, 3, 0, 0);
        turned("-x,y,-z", true, "x,-y,-z-1/4", 0, 0, 1, 1, 0, 0, 0, 1, 0, 3, 0, 0);
    }

    /** "That of another (or the same) slot". */
    private static void sameAndOtherSlots() {
        SymmetryHouse x = symbols("P 2yb", "P 2zc");
        put(x, 0, 0, 1, 1, 0, 0, 0, 1, 0);
        Check.due("to another", x.turn(0, 2, false), 2);
        Check.due("is along z", x.compare(1, 2), 3);
        Check.due("its own is along y", x.operator(0, 0, 16), 1);
        Check.due("to the same", x.turn(0, 0, false), 2);
        Check.due("is along z", x.compare(1, 0), 3);
        Check.due("back in the same", x.turn(0, 0, true), 2);
        Check.due("is along y", x.operator(0, 0, 16), 1);
        Check.due("over another", x.turn(0, 1, true), 2);
        Check.due("is along x", x.operator(1, 0, 15) + x.operator(1, 1, 15), 1);
    }

    /** "NONE if it lacks, or there is no such slot". */
    private static void turnsThatLack() {
        SymmetryHouse x = symbols("P 4", "P 2");
        for (int slot : NO_SLOTS) {
            Check.due("turn(" + slot + ", 0)", x.turn(slot, 0, false), -1);
            Check.due("turn(" + slot + ", 0)", x.turn(slot, 0, true), -1);
        }
        for (int slot : new int[] {-1, 6, Integer.MIN_VALUE, Integer.MAX_VALUE}) {
            Check.due("turn(0, " + slot + ")", x.turn(0, slot, false), -1);
            Check.due("turn(0, " + slot + ")", x.turn(0, slot, true), -1);
        }
        Check.due("nothing was done", x.group(0, 0), 4);
    }

    private static void whichGoesFirst() {
        SymmetryHouse x = symbols("P 4");
        put(x, 2);
        Check.due("no group and a determinant of 2", x.turn(1, 0, false), -1);
        Check.due("no slot and a determinant of 2", x.turn(0, 6, false), -1);
        Check.due("the determinant", x.turn(0, 1, false), -2);
    }

    /** "Six numbers g11 g22 g33 g23 g13 g12, -1000 .. 1000"; "NONE .. for other numbers". */
    private static void numbersOfAMetric() {
        for (int k = 0; k < 6; k++) {
            for (int v : new int[] {-1001, 1001, Integer.MIN_VALUE, Integer.MAX_VALUE}) {
                SymmetryHouse x = symbols("P 1");
                Check.due("number " + k + " " + v, metric(x, 0, k, v), -1);
                Check.due("no sum", x.mean(k), 0);
            }
            for (int v : new int[] {-1000, 1000}) {
                SymmetryHouse x = symbols("P 1");
                Check.due("number " + k + " " + v, metric(x, 0, k, v), 1);
                for (int other = 0; other < 6; other++) {
                    Check.due("sum " + other, x.mean(other), other == k ? v : 0);
                }
            }
        }
    }

    private static int metric(SymmetryHouse x, int slot, int k, int v) {
        int[] g = new int[6];
        g[k] = v;
        return x.metric(slot, g[0], g[1], g[2], g[3], g[4], g[5]);
    }

    /** "Whether the matrix g is left by all matrices R of the group": each of the six numbers tells. */
    private static void leftByAll() {
        String[] texts = {"P 1", "P -1", "P 2x", "P 2y", "P 2z", "P 4", "P 3*", "P 6"};
        String[] left = {"111111", "111111", "111100", "111010", "111001", "001000", "000000", "001000"};
        for (int i = 0; i < texts.length; i++) {
            for (int k = 0; k < 6; k++) {
                Check.due(texts[i] + " and number " + k, metric(symbols(texts[i]), 0, k, 7), left[i].charAt(k) - '0');
            }
        }
        Check.due("0 by all", symbols("-P 4 2 3").metric(0, 0, 0, 0, 0, 0, 0), 1);
        Check.due("cubic", symbols("-F 4 2 3").metric(0, -5, -5, -5, 0, 0, 0), 1);
        Check.due("hexagonal", symbols("-P 6 2").metric(0, 2, 2, 9, 0, 0, -1), 1);
        Check.due("hexagonal the other way", symbols("-P 6 2").metric(0, 2, 2, 9, 0, 0, 1), 0);
        Check.due("translations do not matter", symbols("x+1/24,y,z").metric(0, 1, 2, 3, 4, 5, 6), 1);
    }

    /** "NONE if it lacks". */
    private static void metricsThatLack() {
        SymmetryHouse x = symbols("P 4", "P 2");
        for (int slot : NO_SLOTS) {
            Check.due("metric of " + slot, x.metric(slot, 1, 1, 1, 0, 0, 0), -1);
        }
    }

    /** "0 ahead of any": also behind refused ones. */
    private static void aheadOfAnyMetric() {
        SymmetryHouse x = symbols("P 4");
        for (int times = 0; times < 2; times++) {
            for (int k = -1; k < 7; k++) {
                Check.due("mean(" + k + ")", x.mean(k), 0);
            }
            x.metric(0, 1, 2, 3, 4, 5, 1001);
            x.metric(1, 1, 2, 3, 4, 5, 6);
        }
    }

    /** "Or without such". */
    private static void noSuchMean() {
        SymmetryHouse x = symbols("P 1");
        x.metric(0, 1, 2, 3, 4, 5, 6);
        for (int k : new int[] {-1, 6, 7, Integer.MIN_VALUE, Integer.MAX_VALUE}) {
            Check.due("mean(" + k + ")", x.mean(k), 0);
        }
        for (int k = 0; k < 6; k++) {
            Check.due("mean(" + k + ")", x.mean(k), k + 1);
        }
    }

    /** "Of the latest metric() that was not NONE": also of one that answered 0. */
    private static void latestMetric() {
        SymmetryHouse x = symbols("P 1", "P 4");
        x.metric(0, 1, 2, 3, 4, 5, 6);
        x.metric(0, 1, 2, 3, 4, 5, -1001);
        x.metric(5, 9, 9, 9, 9, 9, 9);
        Check.due("the one ahead", x.mean(3), 4);
        Check.due("one that is not left", x.metric(1, 1, 2, 3, 4, 5, 6), 0);
        Check.due("its first", x.mean(0), 6);
        Check.due("its third", x.mean(2), 12);
        Check.due("its fourth", x.mean(3), 0);
        Check.symbol(x, 1, "P 2");
        Check.due("another group in the slot", x.mean(2), 12);
    }

    /** "Over all matrices": each once, however many translations there are. */
    private static void sumOverMatrices() {
        String[] texts = {"P 1", "F 1", "x+1/24,y,z", "I 2", "R 3", "-F 4 2 3"};
        int[] matrices = {1, 1, 1, 2, 3, 48};
        for (int i = 0; i < texts.length; i++) {
            SymmetryHouse x = symbols(texts[i]);
            x.metric(0, 0, 0, 1000, 0, 0, 0);
            long sum = x.mean(0) + x.mean(1) + x.mean(2);
            Check.due("sum of " + texts[i], sum, 1000L * matrices[i]);
        }
    }

    /** The answer is a long: the sums may go beyond an int. */
    private static void largeSums() {
        SymmetryHouse x = symbols("P 2x");
        put(x, -9, -1, 7, -9, 8, -1, -8, 5, 1);
        Check.due("turn", x.turn(0, 0, false), 2);
        Check.due("metric", x.metric(0, 1000, 1000, 1000, 1000, 1000, 1000), 0);
        // the columns of the one matrix that is not the identity sum up to 675, 1871 and -2861
        long[] sums = {455626000L, 3500642000L, 8185322000L, -5352930000L, -1931174000L, 1262926000L};
        for (int k = 0; k < 6; k++) {
            Check.due("mean(" + k + ")", x.mean(k), sums[k]);
        }
    }
}
