/** Promises 25 and 26. */
public final class ReflectionsTest {
    /** New again where it would come near its 512 calls. */
    private static SymmetryHouse house = new SymmetryHouse();

    public static void main(String[] args) {
        absences();
        numbers();
        spheres();
        wrong();
        Check.end();
    }

    private static void absent(String symbol, int h, int k, int l, int want) {
        Check.symbol(house, 0, symbol);
        Check.due(symbol + " " + h + " " + k + " " + l, house.reflection(0, h, k, l, 0), want);
    }

    private static void absences() {
        absent("F 4d 2 3 -1d", 1, 1, 1, 0);
        absent("F 4d 2 3 -1d", 1, 0, 0, 1);
        absent("F 4d 2 3 -1d", 2, 0, 0, 1);
        absent("F 4d 2 3 -1d", 4, 0, 0, 0);
        absent("F 4d 2 3 -1d", 2, 2, 0, 0);
        absent("F 4d 2 3 -1d", 4, 2, 0, 1);
        absent("F 4d 2 3 -1d", 2, 2, 2, 0);
        absent("-P 2ybc", 0, 1, 0, 1);
        absent("-P 2ybc", 0, 2, 0, 0);
        absent("-P 2ybc", 1, 0, 1, 1);
        absent("-P 2ybc", 1, 0, 2, 0);
        absent("-P 2ybc", 1, 1, 1, 0);
        absent("P 61", 0, 0, 5, 1);
        absent("P 61", 0, 0, 6, 0);
        absent("P 63", 0, 0, 2, 0);
        absent("R 3", 1, 0, 0, 1);
        absent("R 3", -1, 1, 1, 0);
        absent("R 3", 1, -1, 1, 1);
        absent("R 3", 0, 0, 1000, 1);
        absent("R 3", 0, 0, -999, 0);
        absent("P", 0, 0, 0, 0);
        absent("I 2", 0, 0, 1, 1);
    }

    private static void numbers(String symbol, int h, int k, int l, String want) {
        house = new SymmetryHouse();
        Check.symbol(house, 0, symbol);
        StringBuilder got = new StringBuilder();
        for (int what = 0; what < 6; what++) {
            got.append(what > 0 ? " " : "").append(house.reflection(0, h, k, l, what));
        }
        Check.due(symbol + " " + h + " " + k + " " + l, got.toString(), want);
    }

    private static void numbers() {
        numbers("P 1", 1, 2, 3, "0 0 1 2 1 -1");
        numbers("P 1", 0, 0, 0, "0 1 1 1 1 0");
        numbers("-P 1", 1, 2, 3, "0 1 2 2 1 0");
        numbers("P -1u", 1, 0, 0, "0 1 2 2 1 6");
        numbers("P -1u", -1, 0, 0, "0 1 2 2 1 18");
        numbers("P -1u", 3, 0, 0, "0 1 2 2 1 18");
        numbers("P 21", 1, 2, 0, "0 1 2 2 1 0");
        numbers("P 21", 1, 2, 1, "0 0 2 4 1 -1");
        numbers("P 21", 0, 0, 1, "1 0 1 2 2 -1");
        numbers("P 21 2", 0, 0, 1, "1 1 2 2 2 -1");
        numbers("-P 4 2 3", 1, 2, 3, "0 1 48 48 1 0");
        numbers("-P 4 2 3", 1, 1, 1, "0 1 8 8 6 0");
        numbers("-P 4 2 3", 1, 0, 0, "0 1 6 6 8 0");
        numbers("-P 4 2 3", 2, 2, 0, "0 1 12 12 4 0");
        numbers("-F 4 2 3", 2, 2, 0, "0 1 12 12 4 0");
        numbers("-F 4 2 3", 2, 1, 0, "1 1 24 24 2 -1");
        numbers("P -4 2 3", 1, 1, 1, "0 0 4 8 6 -1");
        numbers("P 3", 1, 0, 0, "0 0 3 6 1 -1");
        numbers("P 6", 1, 0, 0, "0 1 6 6 1 0");
        numbers("P 6", 2, -1, 0, "0 1 6 6 1 0");
        numbers("P 3 2", 1, 1, 0, "0 1 6 6 1 0");
        numbers("P 3 2", 1, -1, 0, "0 0 3 6 2 -1");
    }

    private static void spheres() {
        sphere("P 1", 6, 0);
        sphere("P 1", 0, 0);
        sphere("I 1", 1, 14);
        sphere("I 1", 6, 1098);
        sphere("F 1", 1, 18);
        sphere("C 1", 2, 60);
        sphere("P 21", 3, 4);
        sphere("P 61", 6, 10);
        sphere("P -2yc", 1, 6);
        sphere("R 1", 1, 18);
    }

    private static void sphere(String symbol, int n, int want) {
        Check.symbol(house, 0, symbol);
        Check.due("absent of " + symbol + " to " + n, house.absent(0, n), want);
    }

    private static void wrong() {
        Check.symbol(house, 0, "I 1");
        int big = Integer.MAX_VALUE;
        int least = Integer.MIN_VALUE;
        int[][] wrong = {{0, 1001, 0, 0, 0}, {0, 0, 1001, 0, 0}, {0, 0, 0, 1001, 0}, {0, -1001, 0, 0, 0},
            {0, 0, -1001, 0, 0}, {0, 0, 0, -1001, 0}, {0, 0, 0, 0, -1}, {0, 0, 0, 0, 6}, {5, 0, 0, 0, 0},
            {-1, 0, 0, 0, 0}, {6, 0, 0, 0, 0}, {0, big, 0, 0, 0}, {0, 0, least, 0, 0}, {0, 0, 0, 0, big},
            {0, 0, 0, 0, least}};
        for (int[] w : wrong) {
            Check.due("reflection", house.reflection(w[0], w[1], w[2], w[3], w[4]), -1);
        }
        Check.due("the edges are fine", house.reflection(0, 1000, -1000, 1000, 0), 0);
        for (int n : new int[] {-1, 7, big, least}) {
            Check.due("absent(0, " + n + ")", house.absent(0, n), -1);
        }
        for (int slot : new int[] {-1, 5, 6, big, least}) {
            Check.due("absent of no group", house.absent(slot, 1), -1);
        }
    }
}
