/** Promises 11 to 16. */
public final class PairsTest {
    private static final SymmetryHouse X = new SymmetryHouse();

    public static void main(String[] args) {
        compares();
        commons();
        cosets();
        normals();
        parts();
        Check.end();
    }

    private static void compares() {
        Check.symbol(X, 0, "P 2 2");
        Check.symbol(X, 1, "P 2");
        Check.symbol(X, 2, "P 4");
        Check.triples(X, 3, "x,-y,-z;-x,y,-z");
        Check.due("the same", X.compare(0, 3), 3);
        Check.due("itself", X.compare(0, 0), 3);
        Check.due("the first has all", X.compare(0, 1), 1);
        Check.due("the second has all", X.compare(1, 0), 2);
        Check.due("neither", X.compare(0, 2), 0);
        Check.due("one lacks", X.compare(0, 5), -1);
        Check.due("the other lacks", X.compare(5, 0), -1);
        Check.due("no slot", X.compare(-1, 0), -1);
        Check.due("no slot", X.compare(0, 6), -1);
        Check.symbol(X, 4, "P 21");
        Check.due("translations count", X.compare(0, 4), 0);
    }

    private static void commons() {
        SymmetryHouse x = new SymmetryHouse();
        Check.symbol(x, 0, "-P 4 2");
        Check.symbol(x, 1, "P 2 2 3");
        Check.due("4/mmm and 23", x.common(0, 1, 2), 4);
        Check.due("is 222", x.group(2, 3), 6);
        Check.symbol(x, 1, "I 41b");
        Check.symbol(x, 0, "F 4 2 3");
        Check.due("of different lattices", x.common(0, 1, 3), 2);
        Check.due("has no translations", x.group(3, 2), 1);
        Check.symbol(x, 0, "I 4");
        Check.due("screws and no screws", x.common(0, 1, 1), 4);
        Check.due("in the slot of one", x.group(1, 0), 4);
        Check.due("its class", x.group(1, 3), 3);
        Check.due("its translations", x.group(1, 2), 2);
        Check.symbol(x, 0, "P 2");
        Check.triples(x, 1, "1/2-x,-y,z;x+1/4,y,z");
        Check.due("a part of the translations", x.common(0, 1, 0), 2);
        Check.triples(x, 0, "-x,-y,z;x,y+1/2,z+1/2");
        Check.triples(x, 1, "-x,-y,z;x+1/2,y+1/2,z+1/2;x+1/2,y,z");
        Check.due("in both slots", x.common(0, 1, 1), 4);
        Check.due("the same then", x.compare(0, 1), 3);
        Check.due("one lacks", x.common(0, 5, 0), -1);
        Check.due("the other lacks", x.common(5, 0, 0), -1);
        Check.due("no such slot", x.common(0, 0, 6), -1);
        Check.due("no such slot", x.common(0, 0, -1), -1);
        Check.due("nothing was done", x.group(0, 0), 4);
    }

    private static String numbers(SymmetryHouse x, int one, int two) {
        StringBuilder s = new StringBuilder();
        for (int i = 0; i < x.group(one, 0); i++) {
            s.append(i > 0 ? " " : "").append(x.coset(one, two, i));
        }
        return s.toString();
    }

    private static void cosets() {
        SymmetryHouse x = new SymmetryHouse();
        Check.symbol(x, 0, "P 3 2");
        Check.triples(x, 1, "-y,-x,-z");
        Check.due("three sets", x.cosets(0, 1), 3);
        // operators 0 and 3 are the threefold ones: after them, operator 2 is 1 and 5; ahead of them, 5 and 1
        Check.due("sets o H, not H o", numbers(x, 0, 1), "0 0 1 2 1 2");
        Check.due("itself", x.cosets(0, 0), 1);
        Check.due("itself", numbers(x, 0, 0), "0 0 0 0 0 0");
        Check.symbol(x, 2, "P");
        Check.due("the trivial one", numbers(x, 0, 2), "0 1 2 3 4 5");
        Check.due("not in it", x.cosets(1, 0), -2);
        Check.due("not in it", x.coset(1, 0, 0), -2);
        Check.due("one lacks", x.cosets(0, 5), -1);
        Check.due("one lacks", x.cosets(5, 0), -1);
        Check.due("one lacks", x.coset(0, 5, 0), -1);
        Check.due("one lacks", x.coset(5, 0, 0), -1);
        Check.due("no such slot", x.cosets(-1, 0), -1);
        Check.due("no such slot", x.cosets(0, 6), -1);
        Check.due("no such operator", x.coset(0, 1, -1), -1);
        Check.due("no such operator", x.coset(0, 1, 6), -1);
        Check.due("the last operator", x.coset(0, 1, 5), 2);
        Check.symbol(x, 3, "-F 4 2 3");
        Check.symbol(x, 4, "F 2");
        Check.due("24 sets", x.cosets(3, 4), 24);
    }

    private static void normals() {
        SymmetryHouse x = new SymmetryHouse();
        Check.symbol(x, 0, "P 3 2");
        Check.triples(x, 1, "-y,-x,-z");
        Check.symbol(x, 2, "P 3");
        Check.due("a 2 in 32", x.normal(0, 1), 0);
        Check.due("the 3 in 32", x.normal(0, 2), 1);
        Check.due("itself", x.normal(0, 0), 1);
        Check.due("not in it", x.normal(2, 1), -2);
        Check.due("one lacks", x.normal(0, 5), -1);
        Check.due("one lacks", x.normal(5, 0), -1);
        Check.due("no such slot", x.normal(6, 0), -1);
        Check.symbol(x, 3, "-F 4 2 3");
        Check.symbol(x, 4, "F 2 2");
        Check.due("222 in m-3m", x.normal(3, 4), 1);
        Check.symbol(x, 4, "P 2 2");
        Check.due("these leave 222 as it is", x.normal(3, 4), 1);
        Check.symbol(x, 4, "F 1");
        Check.due("the translations", x.normal(3, 4), 1);
        Check.symbol(x, 4, "F 4");
        Check.due("one 4 in m-3m", x.normal(3, 4), 0);
        Check.triples(x, 3, "x+1/4,y,z;-x,-y,z");
        Check.symbol(x, 4, "P 2");
        Check.due("moved by a translation", x.normal(3, 4), 0);
    }

    private static void parts() {
        SymmetryHouse x = new SymmetryHouse();
        Check.symbol(x, 0, "-F 4 2 3");
        Check.due("determinant 1", x.part(0, 0, 99, 1), 96);
        Check.due("is 432", x.group(1, 3), 30);
        Check.due("pure translations", x.part(0, 1, 1, 2), 4);
        Check.due("are four", x.group(2, 2), 4);
        Check.due("1 and -1", x.part(0, 2, -1, 3), 8);
        Check.due("its class", x.group(3, 3), 2);
        Check.due("1 and 1", x.part(0, 2, 1, 3), 4);
        Check.due("1 and 2 are none", x.part(0, 2, 2, 3), 0);
        Check.due("the slot stays", x.group(3, 0), 4);
        Check.due("1 and 6, of which it has none", x.part(0, 2, 6, 4), 4);
        int[] types = {0, 5, -5, 7, -7, Integer.MAX_VALUE, Integer.MIN_VALUE};
        for (int t : types) {
            Check.due("no type " + t, x.part(0, 2, t, 4), -1);
        }
        Check.due("which -1", x.part(0, -1, 1, 4), -1);
        Check.due("which 3", x.part(0, 3, 1, 4), -1);
        Check.due("no group", x.part(5, 0, 1, 4), -1);
        Check.due("no slot", x.part(6, 0, 1, 4), -1);
        Check.due("no slot to", x.part(0, 0, 1, 6), -1);
        Check.due("no slot to", x.part(0, 0, 1, -1), -1);
        Check.symbol(x, 0, "P 2 2");
        Check.due("all of 222", x.part(0, 2, 2, 0), 4);
        Check.symbol(x, 0, "P 3 2");
        Check.due("1 and 3 of 32", x.part(0, 2, 3, 0), 3);
        Check.due("in the same slot", x.group(0, 3), 16);
        Check.symbol(x, 0, "P 4 -2c");
        Check.due("1 and -2 of 4mm", x.part(0, 2, -2, 1), 0);
        Check.due("1 and 4 of 4mm", x.part(0, 2, 4, 1), 0);
        Check.due("1 and 2 of 4mm", x.part(0, 2, 2, 1), 2);
    }
}
