/**
 * A witness from outside the document: the 230 types of space groups and some of their origins, written down from
 * memory of the International Tables.
 */
public final class SpaceGroupsTest {
    private static final String[] SYMBOLS = {
        "P 1", "-P 1", "P 2y", "P 2yb", "C 2y", "P -2y", "P -2yc", "C -2y", "C -2yc", "-P 2y",
        "-P 2yb", "-C 2y", "-P 2yc", "-P 2ybc", "-C 2yc", "P 2 2", "P 2c 2", "P 2 2ab", "P 2ac 2ab", "C 2c 2",
        "C 2 2", "F 2 2", "I 2 2", "I 2b 2c", "P 2 -2", "P 2c -2", "P 2 -2c", "P 2 -2a", "P 2c -2ac", "P 2 -2bc",
        "P 2ac -2", "P 2 -2ab", "P 2c -2n", "P 2 -2n", "C 2 -2", "C 2c -2", "C 2 -2c", "A 2 -2", "A 2 -2b", "A 2 -2a",
        "A 2 -2ab", "F 2 -2", "F 2 -2d", "I 2 -2", "I 2 -2c", "I 2 -2a", "-P 2 2", "-P 2ab 2bc", "-P 2 2c", "-P 2ab 2b",
        "-P 2a 2a", "-P 2a 2bc", "-P 2ac 2", "-P 2a 2ac", "-P 2 2ab", "-P 2ab 2ac", "-P 2c 2b", "-P 2 2n", "-P 2ab 2a",
        "-P 2n 2ab", "-P 2ac 2ab", "-P 2ac 2n", "-C 2c 2", "-C 2bc 2", "-C 2 2", "-C 2 2c", "-C 2b 2", "-C 2b 2bc",
        "-F 2 2", "-F 2uv 2vw", "-I 2 2", "-I 2 2c", "-I 2b 2c", "-I 2b 2", "P 4", "P 4w", "P 4c", "P 4cw", "I 4",
        "I 4bw", "P -4", "I -4", "-P 4", "-P 4c", "-P 4a", "-P 4bc", "-I 4", "-I 4ad", "P 4 2", "P 4ab 2ab", "P 4w 2c",
        "P 4abw 2nw", "P 4c 2", "P 4n 2n", "P 4cw 2c", "P 4nw 2abw", "I 4 2", "I 4bw 2bw", "P 4 -2", "P 4 -2ab",
        "P 4c -2c", "P 4n -2n", "P 4 -2c", "P 4 -2n", "P 4c -2", "P 4c -2ab", "I 4 -2", "I 4 -2c", "I 4bw -2",
        "I 4bw -2c", "P -4 2", "P -4 2c", "P -4 2ab", "P -4 2n", "P -4 -2", "P -4 -2c", "P -4 -2ab", "P -4 -2n",
        "I -4 -2", "I -4 -2c", "I -4 2", "I -4 2bw", "-P 4 2", "-P 4 2c", "-P 4a 2b", "-P 4a 2bc", "-P 4 2ab",
        "-P 4 2n", "-P 4a 2a", "-P 4a 2ac", "-P 4c 2", "-P 4c 2c", "-P 4ac 2b", "-P 4ac 2bc", "-P 4c 2ab", "-P 4n 2n",
        "-P 4ac 2a", "-P 4ac 2ac", "-I 4 2", "-I 4 2c", "-I 4bd 2", "-I 4bd 2c", "P 3", "P 31", "P 32", "R 3", "-P 3",
        "-R 3", "P 3 2", "P 3 2\"", "P 31 2c (0 0 1)", "P 31 2\"", "P 32 2c (0 0 -1)", "P 32 2\"", "R 3 2\"", "P 3 -2\"",
        "P 3 -2", "P 3 -2\"c", "P 3 -2c", "R 3 -2\"", "R 3 -2\"c", "-P 3 2", "-P 3 2c", "-P 3 2\"", "-P 3 2\"c",
        "-R 3 2\"", "-R 3 2\"c", "P 6", "P 61", "P 65", "P 62", "P 64", "P 6c", "P -6", "-P 6", "-P 6c", "P 6 2",
        "P 61 2 (0 0 -1)", "P 65 2 (0 0 1)", "P 62 2c (0 0 1)", "P 64 2c (0 0 -1)", "P 6c 2c", "P 6 -2", "P 6 -2c",
        "P 6c -2", "P 6c -2c", "P -6 2", "P -6c 2", "P -6 -2", "P -6c -2c", "-P 6 2", "-P 6 2c", "-P 6c 2", "-P 6c 2c",
        "P 2 2 3", "F 2 2 3", "I 2 2 3", "P 2ac 2ab 3", "I 2b 2c 3", "-P 2 2 3", "-P 2ab 2bc 3", "-F 2 2 3",
        "-F 2uv 2vw 3", "-I 2 2 3", "-P 2ac 2ab 3", "-I 2b 2c 3", "P 4 2 3", "P 4n 2 3", "F 4 2 3", "F 4d 2 3", "I 4 2 3",
        "P 4acd 2ab 3", "P 4bd 2ab 3", "I 4bd 2c 3", "P -4 2 3", "F -4 2 3", "I -4 2 3", "P -4n 2 3", "F -4a 2 3",
        "I -4bd 2c 3", "-P 4 2 3", "-P 4a 2bc 3", "-P 4n 2 3", "-P 4bc 2bc 3", "-F 4 2 3", "-F 4a 2 3", "-F 4vw 2vw 3",
        "-F 4ud 2vw 3", "-I 4 2 3", "-I 4bd 2c 3"};

    /** The last type of each class, and how many matrices the class has. */
    private static final int[] CLASS_ENDS = {1, 2, 5, 9, 15, 24, 46, 74, 80, 82, 88, 98, 110, 122, 142, 146, 148, 155,
        161, 167, 173, 174, 176, 182, 186, 190, 194, 199, 206, 214, 220, 230};
    private static final int[] CLASS_SIZES = {1, 2, 2, 2, 4, 4, 4, 8, 4, 4, 8, 8, 8, 8, 16, 3, 6, 6,
        6, 12, 6, 6, 12, 12, 12, 12, 24, 12, 24, 24, 24, 48};

    public static void main(String[] args) {
        Check.due("types", SYMBOLS.length, 230);
        types();
        apart();
        origins();
        Check.end();
    }

    private static int classOfType(int number) {
        int found = 1;
        while (number > CLASS_ENDS[found - 1]) {
            found++;
        }
        return found;
    }

    private static int translations(String symbol) {
        switch (symbol.charAt(symbol.charAt(0) == '-' ? 1 : 0)) {
            case 'P':
                return 1;
            case 'R':
                return 3;
            case 'F':
                return 4;
            default:
                return 2;
        }
    }

    /** Of the 230, 92 have an inversion, 65 turn nothing over, 68 leave a direction. */
    private static void types() {
        int inverted = 0;
        int proper = 0;
        int polar = 0;
        for (int number = 1; number <= SYMBOLS.length; number++) {
            String symbol = SYMBOLS[number - 1];
            SymmetryHouse x = new SymmetryHouse();
            int type = classOfType(number);
            int order = CLASS_SIZES[type - 1] * translations(symbol);
            Check.due(symbol, Check.symbol(x, 0, symbol), order);
            Check.due(symbol + " matrices", x.group(0, 1), CLASS_SIZES[type - 1]);
            Check.due(symbol + " translations", x.group(0, 2), translations(symbol));
            Check.due(symbol + " class", x.group(0, 3), type);
            Check.due(symbol + " general point", x.orbit(0, 101, 237, 389, 1000), order);
            inverted += x.group(0, 5);
            polar += x.group(0, 6);
            proper += x.group(0, 10);
        }
        Check.due("with an inversion", inverted, 92);
        Check.due("polar", polar, 68);
        Check.due("proper", proper, 65);
    }

    private static void apart() {
        for (int number = 2; number <= SYMBOLS.length; number++) {
            SymmetryHouse x = new SymmetryHouse();
            Check.symbol(x, 0, SYMBOLS[number - 2]);
            Check.symbol(x, 1, SYMBOLS[number - 1]);
            Check.due(SYMBOLS[number - 2] + " is not " + SYMBOLS[number - 1], x.compare(0, 1) == 3, false);
        }
    }

    /** Two choices of the origin in the Tables, and how many twenty-fourths a point's numbers grow by. */
    private static void origin(String one, String two, int a, int b, int c) {
        SymmetryHouse x = new SymmetryHouse();
        Check.symbol(x, 0, one);
        Check.symbol(x, 1, two);
        x.basis(9, Math.floorMod(a, 24));
        x.basis(10, Math.floorMod(b, 24));
        x.basis(11, Math.floorMod(c, 24));
        Check.due(one + " shifted", x.turn(0, 2, false), x.group(1, 0));
        Check.due(one + " is " + two, x.compare(2, 1), 3);
        Check.due(two + " back", x.turn(1, 3, true), x.group(0, 0));
        Check.due(two + " is " + one, x.compare(3, 0), 3);
    }

    private static void origins() {
        origin("P 2 2 -1n", "-P 2ab 2bc", -6, -6, -6);
        origin("P 2 2 -1ab", "-P 2ab 2b", -6, -6, 0);
        origin("P 2 2ab -1ab", "-P 2ab 2a", -6, -6, 0);
        origin("F 2 2 -1d", "-F 2uv 2vw", -3, -3, -3);
        origin("P 4ab -1ab", "-P 4a", 6, -6, 0);
        origin("P 4n -1n", "-P 4bc", -6, -6, -6);
        origin("I 4bw -1bw", "-I 4ad", 0, -6, -3);
        origin("P 4 2 -1ab", "-P 4a 2b", -6, -6, 0);
        origin("P 4ab 2ab -1ab", "-P 4a 2a", 6, -6, 0);
        origin("P 4n 2n -1n", "-P 4ac 2a", 6, -6, 6);
        origin("I 4bw 2bw -1bw", "-I 4bd 2", 0, 6, -3);
        origin("P 2 2 3 -1n", "-P 2ab 2bc 3", -6, -6, -6);
        origin("F 2 2 3 -1d", "-F 2uv 2vw 3", -3, -3, -3);
        origin("P 4 2 3 -1n", "-P 4a 2bc 3", -6, -6, -6);
        origin("P 4n 2 3 -1n", "-P 4bc 2bc 3", -6, -6, -6);
        origin("F 4d 2 3 -1d", "-F 4vw 2vw 3", -3, -3, -3);
        origin("F 4d 2 3 -1ad", "-F 4ud 2vw 3", -9, -9, -9);
    }
}
