/** Promises 21 to 24. */
public final class PointsTest {
    /** New again where it would come near its 512 calls. */
    private static SymmetryHouse house = new SymmetryHouse();

    public static void main(String[] args) {
        positions();
        places();
        latest();
        wrong();
        Check.end();
    }

    /** As the International Tables have them: how many, the site's class, its freedom. */
    private static void position(String symbol, int[] point, int places, int site, int free) {
        String call = symbol + " at " + point[0] + " " + point[1] + " " + point[2] + " by " + point[3];
        house = new SymmetryHouse();
        int order = Check.symbol(house, 0, symbol);
        Check.due(call, house.orbit(0, point[0], point[1], point[2], point[3]), places);
        Check.due(call + " stabiliser", house.site(0), order / places);
        Check.due(call + " class", house.site(1), site);
        Check.due(call + " free", house.site(2), free);
        Check.due(call + " parts", house.site(4), 24 * point[3]);
        for (int k = 0; k < 3; k++) {
            Check.due(call + " own", house.place(house.site(3), k), Math.floorMod(24 * point[k], 24 * point[3]));
        }
    }

    private static void positions() {
        position("F 4d 2 3 -1d", new int[] {0, 0, 0, 1}, 8, 31, 0);
        position("F 4d 2 3 -1d", new int[] {1, 1, 1, 2}, 8, 31, 0);
        position("F 4d 2 3 -1d", new int[] {1, 1, 1, 8}, 16, 20, 0);
        position("F 4d 2 3 -1d", new int[] {5, 5, 5, 8}, 16, 20, 0);
        position("F 4d 2 3 -1d", new int[] {7, 7, 7, 1000}, 32, 19, 1);
        position("F 4d 2 3 -1d", new int[] {7, 0, 0, 1000}, 48, 7, 1);
        position("F 4d 2 3 -1d", new int[] {7, 7, 9, 1000}, 96, 4, 2);
        position("F 4d 2 3 -1d", new int[] {7, 11, 30, 1000}, 192, 1, 3);
        position("-P 2ac 2n", new int[] {1, 25, 7, 100}, 4, 4, 2);
        position("-P 2ac 2n", new int[] {0, 0, 1, 2}, 4, 2, 0);
        position("-P 6c 2c", new int[] {4, 8, 3, 12}, 2, 26, 0);
        position("-P 6c 2c", new int[] {1, 2, 0, 3}, 4, 19, 1);
        position("-P 6c 2c", new int[] {0, 0, 0, 7}, 2, 20, 0);
        position("P 1", new int[] {-10000, 10000, 3, 7}, 1, 1, 3);
        position("-P 1", new int[] {-3, 5, 1, 2}, 1, 2, 0);
        position("P 21", new int[] {0, 0, 0, 1}, 2, 1, 3);
    }

    private static void places() {
        Check.symbol(house, 0, "P 4");
        Check.due("four places", house.orbit(0, 1, 2, 3, 10), 4);
        int[][] want = {{24, 48, 72}, {48, 216, 72}, {192, 24, 72}, {216, 192, 72}};
        for (int i = 0; i < 4; i++) {
            for (int k = 0; k < 3; k++) {
                Check.due("place(" + i + ", " + k + ")", house.place(i, k), want[i][k]);
            }
        }
        Check.due("its own", house.site(3), 0);
        Check.due("one stays", house.site(0), 1);
        Check.due("the identity", house.stays(0), 3);
        house.orbit(0, -1, -2, 3, 10);
        Check.due("another's own", house.site(3), 3);
        house.orbit(0, 1, 1, 0, 2);
        for (int i = 0; i < 4; i++) {
            Check.due("stays(" + i + ")", house.stays(i), i);
        }
        Check.due("stays(4)", house.stays(4), -1);
        house.orbit(0, 0, 1, 5, 2);
        Check.due("two places", house.place(1, 0), 24);
        Check.due("the 2", house.stays(0), 0);
        Check.due("and the identity", house.stays(1), 3);
        Check.due("no more", house.stays(2), -1);
        Check.symbol(house, 1, "P 31");
        house.orbit(1, 0, 0, 0, 1000);
        Check.due("by the third numbers", house.place(2, 2), 16000);
        Check.due("by the third numbers", house.place(1, 2), 8000);
    }

    private static void latest() {
        SymmetryHouse x = new SymmetryHouse();
        Check.symbol(x, 0, "-P 4 2 3");
        Check.due("the origin", x.orbit(0, 0, 0, 0, 3), 1);
        Check.due("refused", x.orbit(0, 0, 0, 0, 0), -1);
        Check.due("refused", x.orbit(5, 1, 2, 3, 7), -1);
        Check.due("the latest stays", x.site(0), 48);
        Check.due("its parts", x.site(4), 72);
        Check.symbol(x, 0, "P 2");
        Check.due("another group in its slot", x.site(1), 32);
        Check.due("its operators", x.stays(47), 47);
        Check.due("one place", x.place(0, 0), 0);
        Check.due("a smaller one", x.orbit(0, 1, 1, 1, 5), 2);
        Check.due("none of the old ones", x.stays(1), -1);
        Check.due("none of the old ones", x.place(2, 0), -1);
    }

    private static void wrong() {
        Check.symbol(house, 0, "P 2");
        int big = Integer.MAX_VALUE;
        int least = Integer.MIN_VALUE;
        int[][] wrong = {{0, 10001, 0, 0, 1}, {0, 0, -10001, 0, 1}, {0, 0, 0, 10001, 1}, {0, -10001, 0, 0, 1},
            {0, 0, 10001, 0, 1}, {0, 0, 0, -10001, 1}, {0, 0, 0, 0, 0}, {0, 0, 0, 0, 1001}, {0, 0, 0, 0, -1},
            {0, big, 0, 0, 1}, {0, 0, least, 0, 1}, {0, 0, 0, 0, least}, {-1, 0, 0, 0, 1}, {6, 0, 0, 0, 1}};
        for (int[] w : wrong) {
            Check.due("orbit", house.orbit(w[0], w[1], w[2], w[3], w[4]), -1);
        }
        Check.due("the edges are fine", house.orbit(0, 10000, -10000, 10000, 1000), 1);
        for (int i : new int[] {-1, 1, big, least}) {
            Check.due("place(" + i + ", 0)", house.place(i, 0), -1);
        }
        for (int k : new int[] {-1, 3, big, least}) {
            Check.due("place(0, " + k + ")", house.place(0, k), -1);
        }
        for (int what : new int[] {-1, 5, big, least}) {
            Check.due("site(" + what + ")", house.site(what), -1);
        }
        for (int i : new int[] {-1, 2, big, least}) {
            Check.due("stays(" + i + ")", house.stays(i), -1);
        }
    }
}
