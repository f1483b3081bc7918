/** Promises 19 and 20. */
public final class MetricTest {
    public static void main(String[] args) {
        SymmetryHouse x = new SymmetryHouse();
        Check.symbol(x, 0, "P 6");
        due(x, 0, new int[] {2, 2, 5, 0, 0, -1}, 1, new long[] {12, 12, 30, 0, 0, -6});
        due(x, 0, new int[] {2, 2, 5, 0, 0, 1}, 0, new long[] {20, 20, 30, 0, 0, -10});
        due(x, 0, new int[] {1000, 1000, -1000, 0, 0, -500}, 1, new long[] {6000, 6000, -6000, 0, 0, -3000});
        Check.symbol(x, 1, "P 2y");
        due(x, 1, new int[] {7, 8, 9, 4, 5, 6}, 0, new long[] {14, 16, 18, 0, 10, 0});
        due(x, 1, new int[] {7, 8, 9, 0, 5, 0}, 1, new long[] {14, 16, 18, 0, 10, 0});
        Check.symbol(x, 2, "-F 4 2 3");
        due(x, 2, new int[] {1, 2, 3, 4, 5, 6}, 0, new long[] {96, 96, 96, 0, 0, 0});
        due(x, 2, new int[] {3, 3, 3, 0, 0, 0}, 1, new long[] {144, 144, 144, 0, 0, 0});
        Check.symbol(x, 3, "P 3*");
        due(x, 3, new int[] {3, 3, 3, 1, 1, 1}, 1, new long[] {9, 9, 9, 3, 3, 3});
        due(x, 3, new int[] {3, 3, 3, 1, 2, 4}, 0, new long[] {9, 9, 9, 7, 7, 7});
        wrong(x);
        large();
        Check.end();
    }

    private static void due(SymmetryHouse x, int slot, int[] g, int want, long[] sums) {
        Check.due("metric", x.metric(slot, g[0], g[1], g[2], g[3], g[4], g[5]), want);
        for (int k = 0; k < 6; k++) {
            Check.due("mean(" + k + ")", x.mean(k), sums[k]);
        }
    }

    private static void wrong(SymmetryHouse x) {
        for (int k = 0; k < 6; k++) {
            for (int v : new int[] {1001, -1001, Integer.MAX_VALUE, Integer.MIN_VALUE}) {
                int[] g = {1, 1, 1, 0, 0, 0};
                g[k] = v;
                Check.due("beyond", x.metric(1, g[0], g[1], g[2], g[3], g[4], g[5]), -1);
            }
        }
        Check.due("no group", x.metric(5, 1, 1, 1, 0, 0, 0), -1);
        Check.due("no slot", x.metric(6, 1, 1, 1, 0, 0, 0), -1);
        Check.due("the latest stays", x.mean(5), 7);
        Check.due("mean(-1)", x.mean(-1), 0);
        Check.due("mean(6)", x.mean(6), 0);
        Check.symbol(x, 3, "P");
        Check.due("another group in its slot", x.mean(5), 7);
    }

    /** The sums go beyond an int. */
    private static void large() {
        SymmetryHouse x = new SymmetryHouse();
        int[] p = {4, 9, 7, -3, -4, 8, -5, -9, 2};
        for (int k = 0; k < 9; k++) {
            x.basis(k, p[k]);
        }
        Check.symbol(x, 0, "P 2x");
        x.turn(0, 0, false);
        long[] sums = new long[6];
        int[] rows = {0, 1, 2, 1, 0, 0};
        int[] columns = {0, 1, 2, 2, 2, 1};
        for (int i = 0; i < 2; i++) {
            for (int k = 0; k < 6; k++) {
                long left = 0;
                long right = 0;
                for (int r = 0; r < 3; r++) {
                    left += x.operator(0, i, r * 3 + rows[k]);
                    right += x.operator(0, i, r * 3 + columns[k]);
                }
                sums[k] += 1000 * left * right;
            }
        }
        due(x, 0, new int[] {1000, 1000, 1000, 1000, 1000, 1000}, 0, sums);
    }
}
