/** The edges of PART 1 and of promises 8 to 10. The document's words stand above each test. */
public final class OperatorEdgesTest {
    public static void main(String[] args) {
        roundFrom24();
        orderOfOperators();
        types();
        orders();
        axes();
        noAxes();
        senses();
        sensesOfTheSecondVector();
        axesAndSensesOfOtherBases();
        oneBehindAnother();
        pitches();
        fixes();
        inverses();
        exchanged();
        noSuchNumber();
        noSuchOperator();
        productsOfNoneSuch();
        finds();
        findsOfNoneSuch();
        Check.end();
    }

    private static SymmetryHouse triples(String text) {
        SymmetryHouse x = new SymmetryHouse();
        Check.due("read of <" + text + "> is above 0", Check.triples(x, 0, text) > 0, true);
        return x;
    }

    private static SymmetryHouse symbol(String text) {
        SymmetryHouse x = new SymmetryHouse();
        Check.due("read of <" + text + "> is above 0", Check.symbol(x, 0, text) > 0, true);
        return x;
    }

    /** The number of the operator of a triple in the group of slot 0. */
    private static int number(SymmetryHouse x, String triple) {
        Check.triples(x, 5, triple);
        for (int i = 0; i < x.group(5, 0); i++) {
            if (Check.out(x, x.text(5, i)).equals(triple)) {
                return x.find(0, 5, i);
            }
        }
        return -1;
    }

    private static void numbers(String triple, int from, int to, String want) {
        SymmetryHouse x = triples(triple);
        Check.due(triple + " " + from + " .. " + to, Check.operator(x, 0, number(x, triple), from, to), want);
    }

    /** "Three numbers 0 .. 23, round again from 24"; "(R, t) after (S, u) is (R S, R u + t)". */
    private static void roundFrom24() {
        SymmetryHouse x = triples("x+1/24,y,z");
        Check.due("24 operators", x.group(0, 0), 24);
        for (int i = 0; i < 24; i++) {
            Check.due("translation " + i, Check.operator(x, 0, i, 9, 11), i + " 0 0");
            Check.due("1 after " + i, x.product(0, 1, i), (i + 1) % 24);
            Check.due("23 after " + i, x.product(0, 23, i), (i + 23) % 24);
            Check.due("inverse of " + i, x.operator(0, i, 22), (24 - i) % 24);
        }
        x = triples("-x,-y,-z;x+1/24,y,z");
        int turn = number(x, "-x,-y,-z");
        int step = number(x, "x+1/24,y,z");
        Check.due("below 0", x.product(0, turn, step), number(x, "-x+23/24,-y,-z"));
        Check.due("the other way", x.product(0, step, turn), number(x, "-x+1/24,-y,-z"));
        x = triples("x-y,x,z+5/6");
        Check.due("5/6 and 5/6", x.product(0, number(x, "x-y,x,z+5/6"), number(x, "x-y,x,z+5/6")),
            number(x, "-y,x-y,z+2/3"));
    }

    /** "By their matrices (the first of the nine numbers that differ: the less first), then by their translations". */
    private static void orderOfOperators() {
        String[] symbols = {"-P 6 2", "P 2 2 3", "-R 3", "F 2 2", "I 4bw"};
        for (String text : symbols) {
            SymmetryHouse x = symbol(text);
            String last = "";
            for (int i = 0; i < x.group(0, 0) && i < 24; i++) {
                StringBuilder key = new StringBuilder();
                for (int k = 0; k < 12; k++) {
                    key.append((char) ('M' + x.operator(0, i, k)));
                }
                Check.due(text + " " + i + " is behind the one ahead", last.compareTo(key.toString()) < 0, true);
                last = key.toString();
            }
        }
        SymmetryHouse x = triples("x,y,z+1/2;x,y+1/2,z;x+1/2,y,z");
        String[] translations = {"0 0 0", "0 0 12", "0 12 0", "0 12 12", "12 0 0", "12 0 12", "12 12 0", "12 12 12"};
        for (int i = 0; i < 8; i++) {
            Check.due("translation " + i, Check.operator(x, 0, i, 9, 11), translations[i]);
        }
    }

    /** "Of determinant 1 and trace 3, -1, 0, 1, 2: 1, 2, 3, 4, 6; of determinant -1: less than 0"; TURNS. */
    private static void types() {
        numbers("x,y,z", 12, 13, "1 1");
        numbers("-x,-y,z", 12, 13, "2 2");
        numbers("-y,x-y,z", 12, 13, "3 3");
        numbers("-y,x,z", 12, 13, "4 4");
        numbers("x-y,x,z", 12, 13, "6 6");
        numbers("-x,-y,-z", 12, 13, "-1 2");
        numbers("x,y,-z", 12, 13, "-2 2");
        numbers("y,-x+y,-z", 12, 13, "-3 6");
        numbers("y,-x,-z", 12, 13, "-4 4");
        numbers("-x+y,-x,-z", 12, 13, "-6 6");
        numbers("z,x,y", 12, 13, "3 3");
        numbers("y,x,z", 12, 13, "-2 2");
    }

    /** "ORDER: the least k with the OPERATOR to the k the identity": above TURNS if a translation is left. */
    private static void orders() {
        numbers("x,y,z", 14, 14, "1");
        numbers("x+1/24,y,z", 14, 14, "24");
        numbers("x+1/2,y,z", 14, 14, "2");
        numbers("x+1/8,y+1/3,z", 14, 14, "24");
        numbers("x+2/3,y+1/3,z+1/3", 14, 14, "3");
        numbers("-x,-y,z+1/2", 14, 14, "2");
        numbers("-x,-y,z+1/4", 14, 14, "4");
        numbers("-x,-y,z+1/24", 14, 14, "24");
        numbers("-x+1/24,-y,z", 14, 14, "2");
        numbers("-y,x,z+1/24", 14, 14, "24");
        numbers("x-y,x,z+1/24", 14, 14, "24");
        numbers("x-y,x,z+1/6", 14, 14, "6");
        numbers("-x+1/24,-y+5/24,-z", 14, 14, "2");
        numbers("y,-x,-z+1/24", 14, 14, "4");
        numbers("x+1/24,y,-z", 14, 14, "24");
    }

    /** "The whole numbers u without a common divisor, the first that is not 0 above 0, with R u = u". */
    private static void axes() {
        numbers("x,-y,-z", 15, 17, "1 0 0");
        numbers("-x,y,-z", 15, 17, "0 1 0");
        numbers("-x,-y,z", 15, 17, "0 0 1");
        numbers("-y,-x,-z", 15, 17, "1 -1 0");
        numbers("y,x,-z", 15, 17, "1 1 0");
        numbers("-x,-z,-y", 15, 17, "0 1 -1");
        numbers("z,x,y", 15, 17, "1 1 1");
        numbers("y,z,x", 15, 17, "1 1 1");
        numbers("-z,-x,y", 15, 17, "1 -1 -1");
        numbers("-x+y,y,-z", 15, 17, "1 2 0");
        numbers("x,x-y,-z", 15, 17, "2 1 0");
        numbers("x,y,-z", 15, 17, "0 0 1");
        numbers("y,x,z", 15, 17, "1 -1 0");
        numbers("-y,-x,z", 15, 17, "1 1 0");
        numbers("y,-x+y,-z", 15, 17, "0 0 1");
        numbers("-x,x+y,z", 15, 17, "2 -1 0");
        SymmetryHouse x = triples("x,-y,-z");
        int[] p = {5, 0, 3, 0, 1, 0, 3, 0, 2};
        for (int k = 0; k < 9; k++) {
            x.basis(k, p[k]);
        }
        x.turn(0, 0, false);
        Check.due("a larger one", Check.operator(x, 0, 0, 15, 17) + " " + Check.operator(x, 0, 1, 15, 17),
            "0 0 0 5 0 3");
    }

    /** "AXIS (of TYPES but 1 and -1) .. else 0, 0, 0". */
    private static void noAxes() {
        numbers("x,y,z", 15, 18, "0 0 0 0");
        numbers("x+1/2,y,z", 15, 18, "0 0 0 0");
        numbers("-x,-y,-z", 15, 18, "0 0 0 0");
        numbers("-x+1/2,-y,-z", 15, 18, "0 0 0 0");
    }

    /** "SENSE (of 3, 4, 6 and these less than 0): 1 or -1 .. 0 of others". */
    private static void senses() {
        numbers("-x,-y,z", 18, 18, "0");
        numbers("x,y,-z", 18, 18, "0");
        numbers("-y,x-y,z", 18, 18, "1");
        numbers("-x+y,-x,z", 18, 18, "-1");
        numbers("-y,x,z", 18, 18, "1");
        numbers("y,-x,z", 18, 18, "-1");
        numbers("x-y,x,z", 18, 18, "1");
        numbers("y,-x+y,z", 18, 18, "-1");
        numbers("y,-x,-z", 18, 18, "1");
        numbers("-y,x,-z", 18, 18, "-1");
        numbers("y,-x+y,-z", 18, 18, "1");
        numbers("x-y,x,-z", 18, 18, "-1");
        numbers("-x+y,-x,-z", 18, 18, "1");
        numbers("-y,x-y,-z", 18, 18, "-1");
        numbers("z,x,y", 18, 18, "1");
        numbers("y,z,x", 18, 18, "-1");
        numbers("-z,-x,-y", 18, 18, "1");
    }

    /** "e the first of 1 0 0, 0 1 0, 0 0 1 for which it is not 0": along x the first one has 0. */
    private static void sensesOfTheSecondVector() {
        numbers("x,-z,y", 18, 18, "1");
        numbers("x,z,-y", 18, 18, "-1");
        numbers("-x,z,-y", 18, 18, "1");
        numbers("x,-z,y-z", 18, 18, "1");
        numbers("x,y-z,y", 18, 18, "1");
        numbers("z,y,-x", 18, 18, "1");
        numbers("-z,y,x", 18, 18, "-1");
    }

    /** AXIS and SENSE by their words alone, of matrices that are far from the plain ones. */
    private static void axesAndSensesOfOtherBases() {
        int[][] bases = {{2, 1, 0, 3, 1, 0, 0, 0, 1}, {-1, 0, 0, 0, -1, 0, 0, 0, 1}, {0, 1, 0, -1, 2, 0, 2, 0, 1},
            {0, 0, 1, 0, 1, 3, -1, 2, 5}, {0, 1, 2, 1, 0, 1, -2, 3, 3}, {-2, 1, 0, -5, 2, 0, 3, 0, 1},
            {1, 2, 3, 0, 1, 4, 0, 0, 1}, {1, 0, 0, -4, 1, 0, 2, -3, 1}, {2, 1, 1, 1, 1, 1, 1, 1, 2},
            {4, 3, 0, 5, 4, 0, 1, 1, 1}, {0, 2, -1, 1, 5, 0, 0, 3, -1}, {-3, 2, 0, 1, -1, 0, 4, 0, -1}};
        String[] texts = {"x,-y,-z", "-x,y,z", "-x,-y,z", "-y,x-y,z", "-y,x,z", "x-y,x,z", "y,-x,-z", "y,y-x,-z",
            "y-x,-x,-z", "z,x,y"};
        for (int[] basis : bases) {
            for (String text : texts) {
                SymmetryHouse x = triples(text);
                for (int k = 0; k < 9; k++) {
                    x.basis(k, basis[k]);
                }
                Check.due("turn of " + text, x.turn(0, 1, false), x.group(0, 0));
                for (int i = 0; i < x.group(1, 0); i++) {
                    axisAndSense(x, i);
                }
            }
        }
    }

    private static void axisAndSense(SymmetryHouse x, int i) {
        int[] n = new int[19];
        for (int k = 0; k < 19; k++) {
            n[k] = x.operator(1, i, k);
        }
        int type = n[12];
        if (type == 1 || type == -1) {
            Check.due("no AXIS", Check.operator(x, 1, i, 15, 18), "0 0 0 0");
            return;
        }
        int sign = type < 0 ? -1 : 1;
        int[] u = {n[15], n[16], n[17]};
        int first = u[0] != 0 ? u[0] : u[1] != 0 ? u[1] : u[2];
        Check.due("the first that is not 0 is above 0", first > 0, true);
        for (int d = 2; d < 100; d++) {
            Check.due("no common divisor " + d, u[0] % d == 0 && u[1] % d == 0 && u[2] % d == 0, false);
        }
        for (int r = 0; r < 3; r++) {
            int led = n[r * 3] * u[0] + n[r * 3 + 1] * u[1] + n[r * 3 + 2] * u[2];
            Check.due("R u", led, sign * u[r]);
        }
        int sense = 0;
        for (int e = 0; e < 3 && sense == 0 && type * sign > 2; e++) {
            int[] v = {e == 0 ? 1 : 0, e == 1 ? 1 : 0, e == 2 ? 1 : 0};
            int[] w = {sign * n[e], sign * n[3 + e], sign * n[6 + e]};
            sense = Integer.signum(u[0] * (v[1] * w[2] - v[2] * w[1]) - v[0] * (u[1] * w[2] - u[2] * w[1])
                + w[0] * (u[1] * v[2] - u[2] * v[1]));
        }
        Check.due("SENSE", n[18], sense);
    }

    /** What is told of one OPERATOR does not hang on the one that was asked ahead. */
    private static void oneBehindAnother() {
        SymmetryHouse x = symbol("-P 4n 2");
        for (int i = 0; i < x.group(0, 0); i++) {
            SymmetryHouse alone = symbol("-P 4n 2");
            Check.due("operator " + i, Check.operator(x, 0, i, 0, 23), Check.operator(alone, 0, i, 0, 23));
        }
        x = symbol("P 4 2");
        Check.due("SENSE of a 4", x.operator(0, number(x, "y,-x,z"), 18), -1);
        Check.due("SENSE of a 2 behind it", x.operator(0, number(x, "y,x,-z"), 18), 0);
        Check.due("SENSE of the other 4", x.operator(0, number(x, "-y,x,z"), 18), 1);
        Check.due("SENSE of the identity", x.operator(0, number(x, "x,y,z"), 18), 0);
    }

    /** "PITCH: t + R t + .. + R to the (TURNS - 1) t, t as it is told, not taken round". */
    private static void pitches() {
        numbers("x,y,z", 19, 21, "0 0 0");
        numbers("x+23/24,y+1/24,z", 19, 21, "23 1 0");
        numbers("-x,-y,z+23/24", 19, 21, "0 0 46");
        numbers("-x+1/2,-y+1/3,z", 19, 21, "0 0 0");
        numbers("-y,x-y,z+23/24", 19, 21, "0 0 69");
        numbers("-y,x,z+1/4", 19, 21, "0 0 24");
        numbers("-y,x,z+23/24", 19, 21, "0 0 92");
        numbers("x-y,x,z+23/24", 19, 21, "0 0 138");
        numbers("-y+5/24,-x+1/6,-z", 19, 21, "1 -1 0");
        numbers("-y+1/24,-x+1/2,-z+1/8", 19, 21, "-11 11 0");
        numbers("y+23/24,x+23/24,z+23/24", 19, 21, "46 46 46");
        numbers("-x+1/2,-y+1/2,-z+1/2", 19, 21, "0 0 0");
        numbers("y,-x,-z+1/2", 19, 21, "0 0 0");
        numbers("z+1/2,x,y", 19, 21, "12 12 12");
        numbers("y+1/24,-x+y+1/3,-z+1/2", 19, 21, "0 0 0");
    }

    /** "It FIXES a point (as it is told) just if its PITCH is 0, 0, 0": 24 is not 0. */
    private static void fixes() {
        String[] texts = {"x,y,z", "x+1/24,y,z", "-x,-y,z", "-x,-y,z+1/2", "-x+1/2,-y,z", "x+1/2,y,-z", "x,y,-z+1/2",
            "-x+1/24,-y,-z", "-y,x,z+1/4", "-y,x,-z+1/4", "y+1/2,x+1/2,z", "y+1/2,x+1/2,-z", "-y+1/2,-x+1/2,-z",
            "-x,y+1/2,-z", "x+1/2,-y,-z", "x,y+1/24,z", "x,y,z+1/24"};
        int[] counts = {1, 1, 2, 1, 2, 1, 2, 2, 1, 4, 1, 1, 2, 1, 1, 1, 1};
        for (int i = 0; i < texts.length; i++) {
            Check.due("fixing ones of " + texts[i], triples(texts[i]).group(0, 11), counts[i]);
        }
    }

    /** "22 the number of its inverse". */
    private static void inverses() {
        for (String text : new String[] {"P 61", "I 41b", "P 3 2", "R 3", "P 2ac 2ab 3"}) {
            SymmetryHouse x = symbol(text);
            int identity = number(x, "x,y,z");
            for (int i = 0; i < x.group(0, 0); i++) {
                int inverse = x.operator(0, i, 22);
                Check.due(text + " " + i + " after its inverse", x.product(0, i, inverse), identity);
                Check.due(text + " " + i + " ahead of it", x.product(0, inverse, i), identity);
            }
        }
    }

    /** "23 how many of the group it is exchanged with": itself and the identity, too. */
    private static void exchanged() {
        SymmetryHouse x = symbol("P 1");
        Check.due("the identity alone", x.operator(0, 0, 23), 1);
        x = triples("-x,-y,-z;x+1/24,y,z");
        Check.due("1/2", x.operator(0, number(x, "x+1/2,y,z"), 23), 48);
        Check.due("1/24", x.operator(0, number(x, "x+1/24,y,z"), 23), 24);
        Check.due("-1", x.operator(0, number(x, "-x,-y,-z"), 23), 4);
        x = symbol("P 3 2");
        Check.due("a 2 of 32", x.operator(0, number(x, "-y,-x,-z"), 23), 2);
        Check.due("a 3 of 32", x.operator(0, number(x, "-y,x-y,z"), 23), 3);
        Check.due("the identity of 32", x.operator(0, number(x, "x,y,z"), 23), 6);
    }

    /** "-100000 if there is none such". */
    private static void noSuchNumber() {
        SymmetryHouse x = symbol("P 61");
        for (int k : new int[] {-1, 24, 25, 100, Integer.MIN_VALUE, Integer.MAX_VALUE}) {
            Check.due("number " + k, x.operator(0, 0, k), -100000);
        }
        Check.due("number 0", x.operator(0, 0, 0), -1);
        Check.due("number 23", x.operator(0, 0, 23), 6);
    }

    private static void noSuchOperator() {
        SymmetryHouse x = symbol("P 61");
        for (int i : new int[] {-1, 6, 7, 192, Integer.MIN_VALUE, Integer.MAX_VALUE}) {
            for (int k = -1; k < 25; k++) {
                Check.due("operator " + i, x.operator(0, i, k), -100000);
            }
        }
        Check.due("operator 5", x.operator(0, 5, 12), 1);
        for (int slot : new int[] {-1, 1, 5, 6, Integer.MIN_VALUE, Integer.MAX_VALUE}) {
            Check.due("slot " + slot, x.operator(slot, 0, 0), -100000);
        }
    }

    /** "NONE if the slot has no group, there is no such OPERATOR". */
    private static void productsOfNoneSuch() {
        SymmetryHouse x = symbol("P 61");
        for (int i : new int[] {-1, 6, 192, Integer.MIN_VALUE, Integer.MAX_VALUE}) {
            Check.due("product(0, " + i + ", 0)", x.product(0, i, 0), -1);
            Check.due("product(0, 0, " + i + ")", x.product(0, 0, i), -1);
            Check.due("product(0, " + i + ", " + i + ")", x.product(0, i, i), -1);
        }
        for (int slot : new int[] {-1, 1, 5, 6, Integer.MIN_VALUE, Integer.MAX_VALUE}) {
            Check.due("slot " + slot, x.product(slot, 0, 0), -1);
        }
        Check.due("product(0, 5, 5)", x.product(0, 5, 5), 5);
    }

    /** "With the matrix and translation of OPERATOR i of another slot; NONE, also if it has none such". */
    private static void finds() {
        SymmetryHouse x = symbol("P 41");
        Check.symbol(x, 1, "P 4");
        Check.symbol(x, 2, "I 41");
        for (int i = 0; i < 4; i++) {
            Check.due("its own", x.find(0, 0, i), i);
            Check.due("the matrix alone", x.find(0, 1, i), i == 3 ? 3 : -1);
            Check.due("among more translations", x.find(2, 0, i), 2 * i);
        }
        for (int i = 0; i < 8; i++) {
            Check.due("the other way", x.find(0, 2, i), i % 2 == 0 ? i / 2 : -1);
        }
        Check.symbol(x, 3, "P 6");
        Check.due("no such matrix", x.find(0, 3, 4), -1);
    }

    private static void findsOfNoneSuch() {
        SymmetryHouse x = symbol("P 41");
        Check.symbol(x, 1, "P 2");
        for (int i : new int[] {-1, 2, 3, 192, Integer.MIN_VALUE, Integer.MAX_VALUE}) {
            Check.due("find(0, 1, " + i + ")", x.find(0, 1, i), -1);
        }
        Check.due("find(0, 1, 1)", x.find(0, 1, 1), 3);
        for (int slot : new int[] {-1, 2, 5, 6, Integer.MIN_VALUE, Integer.MAX_VALUE}) {
            Check.due("find(" + slot + ", 0, 3)", x.find(slot, 0, 3), -1);
            Check.due("find(0, " + slot + ", 0)", x.find(0, slot, 0), -1);
        }
    }
}
