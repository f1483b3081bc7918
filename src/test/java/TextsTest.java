import java.util.NoSuchElementException;

/** Promises 2 to 6. */
public final class TextsTest {
    /** New again where it would come near its 512 calls. */
    private static SymmetryHouse house = new SymmetryHouse();

    public static void main(String[] args) {
        feeds();
        reads();
        tripleFaults();
        symbolFaults();
        symbolGenerators();
        limits();
        texts();
        Check.end();
    }

    private static void feeds() {
        SymmetryHouse x = new SymmetryHouse();
        for (int i = 1; i <= 20; i++) {
            Check.due("feed " + i, x.feed(0x20202020, 0x20202020, 0x20202020, 0x20202020, 0x20202020), 20 * i);
        }
        Check.due("feed 21", x.feed(0x782c792c, 0x7a202020, 0, 0, 0), -1);
        Check.due("nothing came", x.read(0, 401, true), -1);
        Check.due("400 blanks", x.read(0, 400, true), -2);
        Check.due("their place", x.fault(1), 400);
        Check.due("feed again", x.feed(0x782c792c, 0x7a202020, 0x20202020, 0x20202020, 0x20202020), 20);
        Check.due("the highest first", x.read(0, 20, false), 1);
        x.feed(0xFF2c792c, 0x7a202020, 0, 0, 0);
        Check.due("a byte above 127", x.read(0, 20, false), -2);
        Check.due("is no token", x.fault(1), 0);
    }

    private static void reads() {
        SymmetryHouse x = new SymmetryHouse();
        Check.due("nothing yet", x.read(0, 0, false), -2);
        Check.due("empty triples lack", x.fault(1), 0);
        Check.due("empty symbol", x.read(0, 0, true), -2);
        Check.due("lacks too", x.fault(1), 0);
        Check.feed(x, "P 2 2");
        Check.due("below 0", x.read(0, -1, true), -1);
        Check.due("more than there are", x.read(0, 21, true), -1);
        Check.due("slot -1", x.read(-1, 5, true), -1);
        Check.due("slot 6", x.read(6, 5, true), -1);
        Check.due("the fault stays", x.fault(0), 1);
        Check.due("nothing was done", x.read(5, 5, true), 4);
        Check.due("the tape is empty then", x.read(5, 1, true), -1);
        Check.due("a fault", Check.symbol(x, 5, "P 5"), -2);
        Check.due("the tape is empty behind a fault", x.read(5, 1, true), -1);
        Check.due("the slot stays", x.group(5, 0), 4);
        Check.feed(x, "P 2 2");
        Check.due("the first bytes alone", x.read(5, 3, true), 2);
        Check.due("of 20", x.read(5, 1, true), -1);
        Check.feed(x, "x,y,z+1/24");
        Check.due("no digit behind them", x.read(5, 9, false), 2);
        Check.feed(x, "P 41");
        Check.due("nor in a symbol", x.read(5, 3, true), 4);
        Check.due("it has no screw", x.group(5, 11), 4);
        Check.due("digits to the tape's end", Check.triples(x, 5, " ".repeat(391) + "x,y,z+1/2"), 2);
        Check.due("triples", Check.triples(x, 0, "-x,y+1/2,-z+1/2;-x,-y,-z"), 4);
        Check.due("as the symbol", Check.symbol(x, 1, "-P 2ybc"), 4);
        Check.due("are the same", x.compare(0, 1), 3);
    }

    private static void fault(boolean symbol, String text, int fault, int place) {
        house = new SymmetryHouse();
        int answer = symbol ? Check.symbol(house, 0, text) : Check.triples(house, 0, text);
        Check.due("read of <" + text + ">", answer, -2);
        Check.due("fault(0) of <" + text + ">", house.fault(0), fault);
        Check.due("fault(1) of <" + text + ">", house.fault(1), place);
        Check.due("fault(2) of <" + text + ">", house.fault(2), 0);
        Check.due("fault(3) of <" + text + ">", house.fault(3), 0);
        Check.due("fault(4)", house.fault(4), -1);
        Check.due("fault(-1)", house.fault(-1), -1);
    }

    private static void good(boolean symbol, String text, int order, int generators, int matrices) {
        house = new SymmetryHouse();
        int answer = symbol ? Check.symbol(house, 0, text) : Check.triples(house, 0, text);
        Check.due("read of <" + text + ">", answer, order);
        Check.due("fault(0) of <" + text + ">", house.fault(0), 0);
        Check.due("fault(1) of <" + text + ">", house.fault(1), -1);
        Check.due("fault(2) of <" + text + ">", house.fault(2), generators);
        Check.due("fault(3) of <" + text + ">", house.fault(3), matrices);
    }

    private static String times(String text, int n) {
        StringBuilder s = new StringBuilder();
        for (int i = 0; i < n; i++) {
            s.append(i > 0 ? ";" : "").append(text);
        }
        return s.toString();
    }

    private static void tripleFaults() {
        fault(false, "", 1, 0);
        fault(false, "   ", 1, 3);
        fault(false, "house,y,z", 1, 0);
        fault(false, "x,y", 1, 3);
        fault(false, "x,y,  ", 1, 6);
        fault(false, "x,y,z;", 1, 6);
        fault(false, "x,y,z,", 1, 5);
        fault(false, "x,y,z;;", 1, 6);
        fault(false, "x y,y,z", 1, 2);
        fault(false, "x++y,y,z", 1, 2);
        fault(false, "x/2,y,z", 1, 1);
        fault(false, "2x,y,z", 1, 1);
        fault(false, "x+1/,y,z", 1, 4);
        fault(false, "x+1/x,y,z", 1, 4);
        fault(false, "x+1/2/2,y,z", 1, 5);
        fault(false, "x+123,y,z", 1, 2);
        fault(false, "x+1/123,y,z", 1, 4);
        fault(false, "x+1 2,y,z", 1, 4);
        fault(false, "x+x,y,z", 2, 2);
        fault(false, "x,y-z+y,z", 2, 6);
        fault(false, "1/2+x+1/2,y,z", 2, 6);
        fault(false, "x+1/2+1/5,y,z", 2, 6);
        fault(false, "x+1/5,y,z", 3, 4);
        fault(false, "x+1/0,y,z", 3, 4);
        fault(false, "x+1/ 16,y,z", 3, 5);
        fault(false, "x+1/48,y,z", 3, 4);
        fault(false, "x,y,y", 4, 0);
        fault(false, " + x,y,1/2", 4, 1);
        fault(false, "x,y,y $", 4, 0);
        fault(false, "x,y,y z", 4, 0);
        fault(false, "x,y,y 123", 4, 0);
        fault(false, "x,y,y;$", 4, 0);
        fault(false, "x,y,y+$", 1, 6);
        fault(false, "x,y,y+y", 2, 6);
        fault(false, "x,y,z; y-x,x-y,z;$", 4, 7);
        fault(false, times("x,y,z", 13), 5, 72);
        fault(false, times("x,y,z", 12) + "; -x+x,y,y", 5, 73);
        fault(false, times("x,y,z", 12) + ";12$", 5, 72);
        fault(false, times("x,y,z", 12) + ";123", 1, 72);
        fault(false, times("x,y,z", 12) + "; ,", 1, 73);
        fault(false, times("x,y,z", 12) + ";", 1, 72);
        good(false, times("x,y,z", 12), 1, 12, 1);
        good(false, "  x , y , z + 1 / 2  ", 2, 1, 1);
        good(false, "x+1/02,y,z", 2, 1, 1);
        good(false, "x+1/1,y+1,z-0", 1, 1, 1);
        good(false, "-1/3+x,y+99,z", 3, 1, 1);
        good(false, "x+1/24,y,z", 24, 1, 1);
        good(false, "-x-1/2,1/8-y,z", 2, 1, 2);
    }

    private static void symbolFaults() {
        fault(true, "", 1, 0);
        fault(true, "  ", 1, 2);
        fault(true, "-", 1, 1);
        fault(true, "- P", 1, 1);
        fault(true, "Q", 1, 0);
        fault(true, "p 2", 1, 0);
        fault(true, "P2", 1, 1);
        fault(true, "--P", 1, 1);
        fault(true, "P 5", 1, 2);
        fault(true, "P 7", 1, 2);
        fault(true, "P x", 1, 2);
        fault(true, "P -", 1, 3);
        fault(true, "P -x", 1, 3);
        fault(true, "P 2xy", 1, 4);
        fault(true, "P 2ax", 1, 4);
        fault(true, "P 64x", 1, 4);
        fault(true, "P 4e", 1, 3);
        fault(true, "P 40", 1, 3);
        fault(true, "P 66", 1, 3);
        fault(true, "P 412", 1, 4);
        fault(true, "P 41a3", 1, 5);
        fault(true, "P 2(0 0 0)", 1, 3);
        fault(true, "P 2 ( 0 0 0)", 1, 5);
        fault(true, "P 2 (0 0 0 )", 1, 10);
        fault(true, "P 2 (0 0)", 1, 8);
        fault(true, "P 2 (0 0 0", 1, 10);
        fault(true, "P 2 (0 0 ", 1, 9);
        fault(true, "P 2 (0 12 0)", 1, 8);
        fault(true, "P 2 (0 011 0)", 1, 9);
        fault(true, "P 2 (0 - 0)", 1, 8);
        fault(true, "P 2 (: 0 0)", 1, 5);
        fault(true, "P 2 (0: 0 0)", 1, 6);
        fault(true, "P 2 (/ 0 0)", 1, 5);
        fault(true, "P 2 (0 0 0))", 1, 11);
        fault(true, "P 2 (0 0 0) 2", 1, 12);
        fault(true, "P 2 (0 0 0) (0 0 0)", 1, 12);
        fault(true, "P 3'", 6, 3);
        fault(true, "P 1\"", 6, 3);
        fault(true, "P 2*", 6, 3);
        fault(true, "P 6*$", 6, 3);
        fault(true, "P 22", 7, 3);
        fault(true, "P 11", 7, 3);
        fault(true, "P 34", 7, 3);
        fault(true, "P 2'1", 7, 4);
        fault(true, "P 2\"a1", 7, 5);
        fault(true, "P 3*1", 7, 4);
        fault(true, "P 3 21", 7, 5);
        fault(true, "P 2 2 31", 7, 7);
        fault(true, "P 2 2 2 2 2", 8, 10);
        fault(true, "P 2 2 2 2  -$", 8, 11);
        fault(true, "P 2 2 2 2 $", 1, 10);
        good(true, "  -P  ", 2, 1, 2);
        good(true, " F 2 2 (0 0 0) ", 16, 5, 4);
        good(true, "P 2 2 2 2 (11 -11 09)", 4, 4, 4);
        good(true, "P 1", 1, 1, 1);
        good(true, "P 4 21", 16, 2, 8);
        good(true, "P 65", 6, 1, 6);
    }

    private static void same(String symbol, String triples) {
        house = new SymmetryHouse();
        Check.symbol(house, 0, symbol);
        Check.triples(house, 1, triples);
        Check.due("<" + symbol + "> and <" + triples + ">", house.compare(0, 1), 3);
    }

    private static void symbolGenerators() {
        same("P", "x,y,z");
        same("A", "x,y+1/2,z+1/2");
        same("B", "x+1/2,y,z+1/2");
        same("C", "x+1/2,y+1/2,z");
        same("I", "x+1/2,y+1/2,z+1/2");
        same("F", "x+1/2,y+1/2,z;x,y+1/2,z+1/2");
        same("R", "x+2/3,y+1/3,z+1/3");
        same("-P", "-x,-y,-z");
        same("P 2", "-x,-y,z");
        same("P 2x", "x,-y,-z");
        same("P 2y", "-x,y,-z");
        same("P 3", "-y,x-y,z");
        same("P 4", "-y,x,z");
        same("P 6", "x-y,x,z");
        same("P 4x", "x,-z,y");
        same("P 4y", "z,y,-x");
        same("P 3x", "x,-z,y-z");
        same("P 6y", "z,y,z-x");
        same("P -4", "y,-x,-z");
        same("P 2'", "-y,-x,-z");
        same("P 2\"", "y,x,-z");
        same("P 3*", "z,x,y");
        same("P -1a", "-x+1/2,-y,-z");
        same("P 1ab", "x+1/2,y+1/2,z");
        same("P -1c", "-x,-y,1/2-z");
        same("P -1n", "1/2-x,1/2-y,1/2-z");
        same("P -1u", "1/4-x,-y,-z");
        same("P -1vw", "-x,1/4-y,1/4-z");
        same("P -1d", "1/4-x,1/4-y,1/4-z");
        same("P -1dda", "-x,1/2-y,1/2-z");
        same("P 31", "-y,x-y,z+1/3");
        same("P 43", "-y,x,z+3/4");
        same("P 4c1", "-y,x,z+3/4");
        same("P 6x4", "x+2/3,y-z,y");
        same("P -41", "y,-x,-z+1/4");
        same("P 2 2", "-x,-y,z;x,-y,-z");
        same("P 4 2", "-y,x,z;x,-y,-z");
        same("P 3 2", "-y,x-y,z;-y,-x,-z");
        same("P -6 2", "-x+y,-x,-z;-y,-x,-z");
        same("P 1 2", "-x,-y,z");
        same("P 2 1 2", "-x,-y,z");
        same("P 2 2 3", "-x,-y,z;x,-y,-z;z,x,y");
        same("P 1 1 3", "z,x,y");
        same("P 1 3", "-y,x-y,z");
        same("P 4x 2'", "x,-z,y;-x,-z,-y");
        same("P 4y 2\"", "z,y,-x;z,-y,x");
        same("P 3x 2", "x,-z,y-z;-x,-z,-y");
        same("P 3* 2", "z,x,y;-y,-x,-z");
        same("P 2x 2' 2\"", "x,-y,-z;-x,-z,-y;y,x,-z");
        same("-P 1 (1 -2 3)", "1/6-x,-1/3-y,1/2-z");
        same("P 4 (0 3 0)", "-y+1/4,x+1/4,z");
        same("I 2 (1 0 0)", "1/6-x,-y,z;x+1/2,y+1/2,z+1/2");
    }

    private static void limits() {
        SymmetryHouse x = new SymmetryHouse();
        Check.due("192 are not too many", Check.symbol(x, 0, "-F 4 2 3"), 192);
        Check.due("INFINITE", Check.triples(x, 0, "x,y+x,z"), -3);
        Check.due("its fault", x.fault(0), 0);
        Check.due("its place", x.fault(1), -1);
        Check.due("its generators", x.fault(2), 1);
        Check.due("its matrices", x.fault(3), 49);
        Check.due("INFINITE, in fast growing numbers", Check.triples(x, 0, "x+y+z,x+y,x"), -3);
        Check.due("INFINITE of finite ones", Check.symbol(x, 0, "P 4 6"), -3);
        Check.due("their generators", x.fault(2), 2);
        Check.due("FULL", Check.triples(x, 0, "x+1/24,y,z;x,y+1/24,z;-x,-y,-z"), -4);
        Check.due("its fault", x.fault(0), 0);
        Check.due("its generators", x.fault(2), 3);
        Check.due("its matrices", x.fault(3), 2);
        Check.due("FULL in all ways", Check.triples(x, 0, "x+1/24,y,z;x,y+1/24,z;x,y,z+1/24"), -4);
        Check.due("INFINITE ahead of FULL", Check.triples(x, 0, "x+1/24,y,z;x,y+1/24,z;x,y+x,z"), -3);
        Check.due("the slot stays", x.group(0, 0), 192);
        Check.due("192 translations", Check.triples(x, 0, "x+1/24,y,z;x,y+1/8,z"), 192);
        Check.due("193 and more are", Check.triples(x, 0, "x+1/24,y,z;x,y+1/8,z;-x,-y,-z"), -4);
        Check.due("a translation far on", Check.triples(x, 0, times("x,y,z", 11) + ";x-y,x,z+1/8"), 24);
        Check.due("rotations may make translations", Check.symbol(x, 0, "P 1u 1v 1w"), 64);
        Check.due("and too many of them", Check.symbol(x, 0, "-F 4u 2 3"), -4);
    }

    private static void text(int slot, int i, String want) {
        int length = house.text(slot, i);
        Check.due("text(" + slot + ", " + i + ")", length, want.length());
        Check.due("text(" + slot + ", " + i + ")", Check.out(house, length), want);
    }

    private static boolean throwsAt(int i) {
        try {
            house.out(i);
        } catch (NoSuchElementException e) {
            return true;
        }
        return false;
    }

    private static void texts() {
        house = new SymmetryHouse();
        Check.symbol(house, 0, "-P 2ybc");
        text(0, 0, "-x,-y,-z");
        text(0, 1, "-x,y+1/2,-z+1/2");
        text(0, 2, "x,-y+1/2,z+1/2");
        text(0, 3, "x,y,z");
        Check.due("no operator -1", house.text(0, -1), -1);
        Check.due("no operator 4", house.text(0, 4), -1);
        Check.due("no slot -1", house.text(-1, 0), -1);
        Check.due("no slot 6", house.text(6, 0), -1);
        Check.due("no group", house.text(5, 0), -1);
        Check.due("OUT stays", Check.out(house, 5), "x,y,z");
        Check.due("out(5) throws", throwsAt(5), true);
        Check.due("out(-1) throws", throwsAt(-1), true);
        Check.due("out(4) does not", throwsAt(4), false);
        Check.due("out(least) throws", throwsAt(Integer.MIN_VALUE), true);
        String[] parts = {"", "1/24", "1/12", "1/8", "1/6", "5/24", "1/4", "7/24", "1/3", "3/8", "5/12", "11/24",
            "1/2", "13/24", "7/12", "5/8", "2/3", "17/24", "3/4", "19/24", "5/6", "7/8", "11/12", "23/24"};
        Check.triples(house, 0, "x,y,z+1/24");
        for (int i = 0; i < 24; i++) {
            text(0, i, i == 0 ? "x,y,z" : "x,y,z+" + parts[i]);
        }
        Check.triples(house, 0, "y-x,-x,1/3+z");
        text(0, 0, "-x+y,-x,z+1/3");
        text(0, 1, "-y,x-y,z+2/3");
        Check.triples(house, 0, "-x+1/2,y,-z");
        house.basis(0, 1);
        house.basis(1, 9);
        house.basis(2, 9);
        house.basis(5, 9);
        house.turn(0, 0, false);
        text(0, 0, "-x+18y-162z+1/2,y-18z,-z");
        text(0, 1, "x,y,z");
        house.turn(0, 0, false);
        text(0, 0, "-x+36y-648z+1/2,y-36z,-z");
    }
}
