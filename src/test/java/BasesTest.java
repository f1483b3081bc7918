/** Promises 17 and 18. */
public final class BasesTest {
    public static void main(String[] args) {
        numbers();
        turns();
        origins();
        refusals();
        Check.end();
    }

    private static void put(SymmetryHouse x, int... numbers) {
        for (int k = 0; k < numbers.length; k++) {
            Check.due("basis(" + k + ", " + numbers[k] + ")", x.basis(k, numbers[k]), true);
        }
    }

    private static void numbers() {
        SymmetryHouse x = new SymmetryHouse();
        for (int k = 0; k < 9; k++) {
            Check.due("-9", x.basis(k, -9), true);
            Check.due("9", x.basis(k, 9), true);
            Check.due("-10", x.basis(k, -10), false);
            Check.due("10", x.basis(k, 10), false);
        }
        for (int k = 9; k < 12; k++) {
            Check.due("0", x.basis(k, 0), true);
            Check.due("23", x.basis(k, 23), true);
            Check.due("-1", x.basis(k, -1), false);
            Check.due("24", x.basis(k, 24), false);
        }
        Check.due("k -1", x.basis(-1, 0), false);
        Check.due("k 12", x.basis(12, 0), false);
        Check.due("k least", x.basis(Integer.MIN_VALUE, 0), false);
        Check.due("v least", x.basis(0, Integer.MIN_VALUE), false);
    }

    private static void turned(SymmetryHouse x, String text, boolean back, String want) {
        int order = Check.triples(x, 0, text);
        Check.triples(x, 2, want);
        Check.due("turn of <" + text + ">", x.turn(0, 1, back), order);
        Check.due("turn of <" + text + "> is <" + want + ">", x.compare(1, 2), 3);
    }

    private static void turns() {
        SymmetryHouse x = new SymmetryHouse();
        turned(x, "-x,y+1/2,-z", false, "-x,y+1/2,-z");
        turned(x, "z,x,y;-x,-y,z+1/2", false, "z,x,y;-x,-y,z+1/2");
        turned(x, "x-y,x,1/6-z", true, "x-y,x,1/6-z");
        turned(x, "x+1/3,z-y,z", true, "x+1/3,z-y,z");
        put(x, 0, 0, 1, 1, 0, 0, 0, 1, 0);
        turned(x, "-x,y+1/2,-z", false, "-x,-y,z+1/2");
        turned(x, "-x,y+1/2,-z", true, "x+1/2,-y,-z");
        turned(x, "x+1/2,y,z", false, "x,y+1/2,z");
        put(x, 1, 1, 0, 0, 1, 0, 0, 0, 1);
        turned(x, "-x,y,-z+1/3;x,y+1/2,z", false, "x+1/2,y+1/2,z", 4, "-x+2y,y,-z+1/3");
        Check.symbol(x, 0, "P 4");
        x.turn(0, 1, false);
        x.turn(1, 1, true);
        Check.due("there and back", x.compare(0, 1), 3);
        put(x, 0, 1, 0, 1, 0, 0, 0, 0, 1);
        Check.due("a determinant of -1", x.turn(0, 0, false), 4);
        Check.due("in the same slot", x.compare(0, 1), 3);
        put(x, 1, 0, 0, 0, -1, 0, 0, 0, 1);
        Check.symbol(x, 0, "P 41");
        x.turn(0, 1, false);
        Check.due("the sense turns", x.operator(1, 1, 18), x.operator(0, 1, 18));
        Check.due("the screw too", x.operator(1, 1, 11), 18);
    }

    private static void turned(SymmetryHouse x, String text, boolean back, String pure, int order, String first) {
        Check.triples(x, 0, text);
        Check.due("turn of <" + text + ">", x.turn(0, 1, back), order);
        Check.due("its first text", Check.out(x, x.text(1, 0)), first);
        Check.triples(x, 2, pure);
        x.part(1, 1, 1, 1);
        Check.due("its pure translations", x.compare(1, 2), 3);
    }

    private static void origins() {
        SymmetryHouse x = new SymmetryHouse();
        put(x, 1, 0, 0, 0, 1, 0, 0, 0, 1, 3, 0, 23);
        turned(x, "-x,-y,-z", false, "1/4-x,-y,-1/12-z");
        turned(x, "-x,-y,-z", true, "-1/4-x,-y,1/12-z");
        turned(x, "-y,x,z", false, "-y+1/8,x-1/8,z");
        turned(x, "-y,x,z", true, "-y-1/8,x+1/8,z");
        put(x, 0, 0, 1, 1, 0, 0, 0, 1, 0, 3, 0, 0);
        turned(x, "x,-y,-z", false, "-x+1/4,y,-z");
        turned(x, "-x,y,-z", true, "x,-y,-z-1/4");
        Check.symbol(x, 0, "-F 4ud 2vw 3");
        put(x, 2, 1, 1, 1, 1, 1, 1, 1, 2, 5, 17, 8);
        Check.due("a large one", x.turn(0, 1, true), 192);
        Check.due("and back", x.turn(1, 2, false), 192);
        Check.due("is the same", x.compare(0, 2), 3);
        Check.due("its class", x.group(1, 3), 32);
    }

    private static void refusals() {
        SymmetryHouse x = new SymmetryHouse();
        Check.symbol(x, 0, "P 2x");
        Check.symbol(x, 1, "P 4");
        Check.due("no group", x.turn(5, 1, false), -1);
        Check.due("no slot", x.turn(6, 1, false), -1);
        Check.due("no slot", x.turn(-1, 1, false), -1);
        Check.due("no slot to", x.turn(0, 6, false), -1);
        Check.due("no slot to", x.turn(0, -1, false), -1);
        put(x, 2);
        Check.due("determinant 2", x.turn(0, 1, false), -2);
        Check.due("back", x.turn(0, 1, true), -2);
        Check.due("the group's lack goes first", x.turn(5, 1, false), -1);
        put(x, 0);
        Check.due("determinant 0", x.turn(0, 1, false), -2);
        Check.due("nothing was done", x.group(1, 0), 4);
        put(x, 4, 7, -9, 5, 8, 4, -2, -3, -6);
        Check.due("1000", x.turn(0, 1, false), -3);
        Check.due("nothing was done", x.group(1, 0), 4);
        Check.symbol(x, 0, "P -2x");
        Check.due("-1000", x.turn(0, 1, false), -3);
        put(x, 7, 1, -8, -6, 7, 2, -5, -6, 9);
        Check.due("the first number alone", x.turn(0, 1, false), -3);
        put(x, 6, 5, 5, 7, -7, 5, -9, 0, -7);
        Check.due("the last number alone", x.turn(0, 1, false), -3);
        put(x, -3, -8, -4, 4, -9, 8, -5, 4, -9);
        Check.due("-999", x.turn(0, 1, false), 2);
        Check.due("as told", x.operator(1, 0, 8) + x.operator(1, 1, 8), -998);
        Check.symbol(x, 0, "P 2x");
        Check.due("999", x.turn(0, 1, false), 2);
        Check.due("as told", x.operator(1, 0, 8) + x.operator(1, 1, 8), 1000);
    }
}
