/** Promises 7 to 10. */
public final class GroupsTest {
    /** New again where it would come near its 512 calls. */
    private static SymmetryHouse house = new SymmetryHouse();

    public static void main(String[] args) {
        classes();
        groupNumbers();
        operatorNumbers();
        products();
        finds();
        Check.end();
    }

    /** A symbol of each class with its system and how many matrices it has. */
    private static void classes() {
        String[] symbols = {"P 1", "-P 1", "P 2y", "P -2y", "-P 2y", "P 2 2", "P 2 -2", "-P 2 2", "P 4", "P -4",
            "-P 4", "P 4 2", "P 4 -2", "P -4 2", "-P 4 2", "P 3", "-P 3", "P 3 2", "P 3 -2", "-P 3 2", "P 6", "P -6",
            "-P 6", "P 6 2", "P 6 -2", "P -6 2", "-P 6 2", "P 2 2 3", "-P 2 2 3", "P 4 2 3", "P -4 2 3", "-P 4 2 3"};
        int[] orders = {1, 2, 2, 2, 4, 4, 4, 8, 4, 4, 8, 8, 8, 8, 16, 3, 6, 6, 6, 12, 6, 6, 12, 12, 12, 12, 24, 12,
            24, 24, 24, 48};
        int[] systems = {1, 1, 2, 2, 2, 3, 3, 3, 4, 4, 4, 4, 4, 4, 4, 5, 5, 5, 5, 5, 6, 6, 6, 6, 6, 6, 6, 7, 7, 7, 7, 7};
        for (int i = 0; i < symbols.length; i++) {
            Check.symbol(house, 0, symbols[i]);
            Check.due("order of " + symbols[i], house.group(0, 0), orders[i]);
            Check.due("matrices of " + symbols[i], house.group(0, 1), orders[i]);
            Check.due("class of " + symbols[i], house.group(0, 3), i + 1);
            Check.due("system of " + symbols[i], house.group(0, 4), systems[i]);
        }
        Check.symbol(house, 0, "P 3* 2");
        Check.due("class of a rhombohedral one", house.group(0, 3), 18);
    }

    private static void numbers(String symbol, String want) {
        house = new SymmetryHouse();
        Check.symbol(house, 1, symbol);
        StringBuilder got = new StringBuilder();
        for (int what = 0; what < 12; what++) {
            got.append(what > 0 ? " " : "").append(house.group(1, what));
        }
        Check.due("group of " + symbol, got.toString(), want);
    }

    private static void groupNumbers() {
        numbers("P 1", "1 1 1 1 1 0 1 1 1 1 1 1");
        numbers("F 1", "4 1 4 1 1 0 1 1 4 4 1 1");
        numbers("P -2yc", "2 2 1 4 2 0 1 1 2 2 0 1");
        numbers("P 3 2", "6 6 1 18 5 0 0 0 1 3 1 6");
        numbers("P 4 -2", "8 8 1 13 4 0 1 0 2 5 0 8");
        numbers("-P 4 2 3", "48 48 1 32 7 1 0 0 2 10 0 48");
        numbers("P 2 2 3", "12 12 1 28 7 0 0 0 1 4 1 12");
        Check.symbol(house, 1, "-F 4 2 3");
        Check.due("pure translations of F", house.group(1, 2), 4);
        Check.due("order of F m -3 m", house.group(1, 0), 192);
        for (int what : new int[] {-1, 12, Integer.MAX_VALUE, Integer.MIN_VALUE}) {
            Check.due("another what", house.group(1, what), -1);
        }
        for (int slot : new int[] {-1, 5, 6, Integer.MAX_VALUE, Integer.MIN_VALUE}) {
            Check.due("no group", house.group(slot, 0), -1);
        }
    }

    private static void operator(int i, String want) {
        Check.due("operator " + i, Check.operator(house, 2, i, 0, 23), want);
    }

    private static void operatorNumbers() {
        house = new SymmetryHouse();
        Check.symbol(house, 2, "-P 2ybc");
        operator(0, "-1 0 0 0 -1 0 0 0 -1 0 0 0 -1 2 2 0 0 0 0 0 0 0 0 4");
        operator(1, "-1 0 0 0 1 0 0 0 -1 0 12 12 2 2 2 0 1 0 0 0 24 0 1 4");
        operator(2, "1 0 0 0 -1 0 0 0 1 0 12 12 -2 2 2 0 1 0 0 0 0 24 2 4");
        operator(3, "1 0 0 0 1 0 0 0 1 0 0 0 1 1 1 0 0 0 0 0 0 0 3 4");
        Check.symbol(house, 2, "P 41");
        operator(1, "0 -1 0 1 0 0 0 0 1 0 0 6 4 4 4 0 0 1 1 0 0 24 2 4");
        operator(2, "0 1 0 -1 0 0 0 0 1 0 0 18 4 4 4 0 0 1 -1 0 0 72 1 4");
        Check.symbol(house, 2, "P -4");
        operator(1, "0 -1 0 1 0 0 0 0 -1 0 0 0 -4 4 4 0 0 1 -1 0 0 0 2 4");
        Check.symbol(house, 2, "P 65");
        operator(5, "1 0 0 0 1 0 0 0 1 0 0 0 1 1 1 0 0 0 0 0 0 0 5 6");
        operator(4, "1 -1 0 1 0 0 0 0 1 0 0 20 6 6 6 0 0 1 1 0 0 120 3 6");
        Check.symbol(house, 2, "-P 3*");
        operator(5, "1 0 0 0 1 0 0 0 1 0 0 0 1 1 1 0 0 0 0 0 0 0 5 6");
        operator(4, "0 1 0 0 0 1 1 0 0 0 0 0 3 3 3 1 1 1 -1 0 0 0 3 6");
        operator(1, "0 -1 0 0 0 -1 -1 0 0 0 0 0 -3 6 6 1 1 1 -1 0 0 0 2 6");
        Check.triples(house, 2, "-y,-x,-z");
        operator(0, "0 -1 0 -1 0 0 0 0 -1 0 0 0 2 2 2 1 -1 0 0 0 0 0 0 2");
        Check.triples(house, 2, "x+1/24,y,z");
        operator(23, "1 0 0 0 1 0 0 0 1 23 0 0 1 1 24 0 0 0 0 23 0 0 1 24");
        Check.triples(house, 2, "x+1/4,y+1/4,-z");
        operator(1, "1 0 0 0 1 0 0 0 -1 18 18 0 -2 2 4 0 0 1 0 36 36 0 0 4");
        Check.symbol(house, 2, "P 3 2");
        operator(0, "-1 1 0 -1 0 0 0 0 1 0 0 0 3 3 3 0 0 1 -1 0 0 0 3 3");
        operator(1, "-1 1 0 0 1 0 0 0 -1 0 0 0 2 2 2 1 2 0 0 0 0 0 1 2");
        operator(4, "1 0 0 0 1 0 0 0 1 0 0 0 1 1 1 0 0 0 0 0 0 0 4 6");
        wrongOperators();
        order();
    }

    private static void wrongOperators() {
        int[][] wrong = {{-1, 0, 0}, {6, 0, 0}, {5, 0, 0}, {2, -1, 0}, {2, 6, 0}, {2, 0, -1}, {2, 0, 24},
            {Integer.MAX_VALUE, 0, 0}, {2, Integer.MAX_VALUE, 0}, {2, Integer.MIN_VALUE, 0}, {2, 0, Integer.MIN_VALUE}};
        for (int[] w : wrong) {
            Check.due("operator(" + w[0] + ", " + w[1] + ", " + w[2] + ")", house.operator(w[0], w[1], w[2]), -100000);
        }
    }

    private static void order() {
        for (int i = 1; i < 192; i++) {
            house = new SymmetryHouse();
            Check.due("order", Check.symbol(house, 2, "F 4d 2 3 -1d"), 192);
            int k = 0;
            while (k < 12 && house.operator(2, i - 1, k) == house.operator(2, i, k)) {
                k++;
            }
            Check.due("numbered in order", k < 12 && house.operator(2, i - 1, k) < house.operator(2, i, k), true);
        }
    }

    private static void products() {
        house = new SymmetryHouse();
        Check.symbol(house, 3, "P 3 2");
        Check.due("3 after 2", house.product(3, 3, 1), 2);
        Check.due("2 after 3", house.product(3, 1, 3), 5);
        Check.due("3 after its inverse", house.product(3, 3, 0), 4);
        Check.symbol(house, 3, "P 41");
        Check.due("4 to the 2", house.product(3, 1, 1), 0);
        Check.due("4 to the 3", house.product(3, 1, 0), 2);
        Check.due("4 to the 4", house.product(3, 1, 2), 3);
        int[][] wrong = {{3, -1, 0}, {3, 0, -1}, {3, 4, 0}, {3, 0, 4}, {-1, 0, 0}, {6, 0, 0}, {5, 0, 0}};
        for (int[] w : wrong) {
            Check.due("product(" + w[0] + ", " + w[1] + ", " + w[2] + ")", house.product(w[0], w[1], w[2]), -1);
        }
        Check.symbol(house, 3, "I 41b -1bw");
        for (int i = 0; i < house.group(3, 0); i++) {
            Check.due("by the inverse", house.product(3, i, house.operator(3, i, 22)), house.group(3, 0) - 2);
        }
    }

    private static void finds() {
        house = new SymmetryHouse();
        Check.symbol(house, 0, "P 41");
        Check.symbol(house, 1, "P 43");
        Check.symbol(house, 2, "P 41 2c");
        Check.due("2 of 43 in 41", house.find(0, 1, 0), 0);
        Check.due("4 of 43 in 41", house.find(0, 1, 1), -1);
        Check.due("identity", house.find(0, 1, 3), 3);
        Check.due("identity of the larger", house.find(2, 0, 3), 7);
        Check.due("the other way", house.find(0, 2, 7), 3);
        int[][] wrong = {{0, 1, -1}, {0, 1, 4}, {-1, 1, 0}, {0, -1, 0}, {5, 1, 0}, {0, 5, 0}, {6, 1, 0}, {0, 6, 0}};
        SymmetryHouse x = new SymmetryHouse();
        Check.symbol(x, 0, "P 41");
        Check.symbol(x, 1, "P 43");
        for (int[] w : wrong) {
            Check.due("find(" + w[0] + ", " + w[1] + ", " + w[2] + ")", x.find(w[0], w[1], w[2]), -1);
        }
    }
}
