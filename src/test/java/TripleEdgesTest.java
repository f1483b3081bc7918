/** The edges of TRIPLES and of their FAULTS. The document's words stand above each test. */
public final class TripleEdgesTest {
    private static final String TWELVE = "x,y,z;".repeat(11) + "x,y,z";

    public static void main(String[] args) {
        blanksBetweenTokens();
        bytesInEachPlace();
        signsOfASum();
        digitsOfANumber();
        partsOfANumber();
        movesRoundFrom24();
        sumWithoutLetters();
        syntaxWhereItLacks();
        twice();
        wrongParts();
        determinants();
        determinantAheadOfWhatIsBehind();
        many();
        manyAheadOfAllButSyntax();
        wholeTape();
        Check.end();
    }

    /** The slot has a group ahead of it, to see that it stays. */
    private static void fault(String text, int fault, int place) {
        SymmetryHouse x = new SymmetryHouse();
        Check.symbol(x, 0, "P 3 2");
        Check.due("read of <" + text + ">", Check.triples(x, 0, text), -2);
        Check.due("fault(0) of <" + text + ">", x.fault(0), fault);
        Check.due("fault(1) of <" + text + ">", x.fault(1), place);
        Check.due("fault(2) of <" + text + ">", x.fault(2), 0);
        Check.due("fault(3) of <" + text + ">", x.fault(3), 0);
        Check.due("the slot behind <" + text + ">", x.group(0, 0), 6);
    }

    /** All operators of the text's group, in order. */
    private static void good(String text, String... operators) {
        SymmetryHouse x = new SymmetryHouse();
        Check.due("read of <" + text + ">", Check.triples(x, 0, text), operators.length);
        Check.due("fault(0) of <" + text + ">", x.fault(0), 0);
        Check.due("fault(1) of <" + text + ">", x.fault(1), -1);
        for (int i = 0; i < operators.length; i++) {
            Check.due("operator " + i + " of <" + text + ">", Check.out(x, x.text(0, i)), operators[i]);
        }
    }

    /** "Blanks (32) may stand between TOKENS": no other byte, and not within one. */
    private static void blanksBetweenTokens() {
        good("  -  x  +  1  /  2  ,  -  y  ,  -  z  ", "-x+1/2,-y,-z", "x,y,z");
        good("x,y,z ; x,y,z+1/2", "x,y,z", "x,y,z+1/2");
        good("x,y,z+12 /24", "x,y,z", "x,y,z+1/2");
        fault("x,y,z+1 2/24", 1, 8);
        fault("x,y,z+1/2 4", 1, 10);
        fault("x,\ty,z", 1, 2);
        fault("x,y,z\n", 1, 5);
        fault("\u00a0x,y,z", 1, 0);
        fault("\0x,y,z", 1, 0);
    }

    /**
     * "The first byte that begins no TOKEN, or TOKEN, with which it can't go on (at its first byte; at the text's
     * length where it lacks)": each byte behind each beginning. Behind those told, the text lacks (or is whole).
     */
    private static void bytesInEachPlace() {
        bytes("", " +-xyz0123456789", false);
        bytes("-", " xyz0123456789", false);
        bytes("x", " +-,", false);
        bytes("1", " +-,/0123456789", false);
        bytes("x+", " yz0123456789", false);
        bytes("x,", " +-xyz0123456789", false);
        bytes("x,y,", " +-z", true);
        bytes("x,y,z;", " +-xyz0123456789", false);
        bytes("1/2", " +-,4", false);
        bytes("x,y,z", " +-;", true);
        bytes("x,y,z+1/2", " +-;4", true);
        bytes("x,y,z+1", " +-;/0123456789", true);
    }

    private static void bytes(String ahead, String goOn, boolean whole) {
        for (char c = 0; c < 256; c++) {
            String text = ahead + c;
            boolean digits = ahead.endsWith("1/2") && c >= '0' && c <= '9';
            if (ahead.equals("x+") && c == 'x') {
                fault(text, 2, 2);
            } else if (ahead.equals("x,y,") && "xy0123456789".indexOf(c) >= 0) {
                fault(text, 4, 0);
            } else if (goOn.indexOf(c) < 0 && digits) {
                fault(text, 3, text.length() - 2);
            } else if (goOn.indexOf(c) < 0) {
                fault(text, 1, ahead.length());
            } else if (!whole || "+-;/".indexOf(c) >= 0 || text.equals("x,y, ")) {
                fault(text, 1, text.length());
            } else {
                SymmetryHouse x = new SymmetryHouse();
                Check.due("read of <" + text + ">", Check.triples(x, 0, text) > 0, true);
            }
        }
    }

    /** "SUM: [+ | -] TERM {(+ | -) TERM}". */
    private static void signsOfASum() {
        good("+x,+y,+z", "x,y,z");
        good("-x,-y,+z", "-x,-y,z", "x,y,z");
        good("-y+x,+x,z", "-x,-y,z", "-x+y,-x,z", "-y,x-y,z", "y,-x+y,z", "x-y,x,z", "x,y,z");
        good("+1/2-x,-1/2-y,-z", "-x+1/2,-y+1/2,-z", "x,y,z");
        fault("--x,y,z", 1, 1);
        fault("+-x,y,z", 1, 1);
        fault("x+-y,y,z", 1, 2);
        fault("x+,y,z", 1, 2);
        fault("+,y,z", 1, 1);
        fault(",y,z", 1, 0);
        fault("x,,z", 1, 2);
        fault("x,y,;", 1, 4);
        fault("x,y;z", 1, 3);
        fault("x,y,z,x", 1, 5);
        fault("x,y,z;;x,y,z", 1, 6);
        fault("xy,y,z", 1, 1);
        fault("2x,y,z", 1, 1);
        fault("x2,y,z", 1, 1);
        fault("x/2,y,z", 1, 1);
        fault("/2+x,y,z", 1, 0);
        fault("X,y,z", 1, 0);
    }

    /** "NUMBER: all digits that stand together, one or two". */
    private static void digitsOfANumber() {
        good("x,y,z+1", "x,y,z");
        good("x,y,z+99", "x,y,z");
        good("x,y,z+0", "x,y,z");
        good("x,y,z+00/01", "x,y,z");
        good("x,y,z+06/12", "x,y,z", "x,y,z+1/2");
        good("x,y,z+6/12", "x,y,z", "x,y,z+1/2");
        fault("x,y,z+100", 1, 6);
        fault("x,y,z+001", 1, 6);
        fault("x,y,z+1/024", 1, 8);
        fault("x,y,z+1/124", 1, 8);
        fault("123", 1, 0);
        fault("x,y,z+1/2/2", 1, 9);
        fault("x,y,z+1/", 1, 8);
        fault("x,y,z+1/x", 1, 8);
        fault("x,y,z+1/-2", 1, 8);
    }

    /** "q told: 1, 2, 3, 4, 6, 8, 12, 24; else 1": as many operators as there are parts. */
    private static void partsOfANumber() {
        for (int q : new int[] {1, 2, 3, 4, 6, 8, 12, 24}) {
            for (String told : new String[] {"" + q, (q < 10 ? "0" : "") + q}) {
                SymmetryHouse x = new SymmetryHouse();
                Check.due("parts of 1/" + told, Check.triples(x, 0, "x,y,z+1/" + told), q);
                Check.due("the second one", x.operator(0, q - 1, 11), 24 / q * (q - 1));
            }
        }
        good("x+5,y-7,z", "x,y,z");
    }

    /** "In TWENTY-FOURTHS of the axes, round again from 24". */
    private static void movesRoundFrom24() {
        for (int p = 0; p < 100; p++) {
            for (int sign = -1; sign < 2; sign += 2) {
                SymmetryHouse x = new SymmetryHouse();
                String move = (sign < 0 ? "-" : "+") + p;
                Check.triples(x, 0, move + "/24-x,-y" + move + "/8," + move + "-z");
                Check.due(move + "/24", x.operator(0, 0, 9), Math.floorMod(sign * p, 24));
                Check.due(move + "/8", x.operator(0, 0, 10), Math.floorMod(sign * p * 3, 24));
                Check.due(move, x.operator(0, 0, 11), 0);
            }
        }
    }

    /** "A SUM without x, y or z has 0 for it". */
    private static void sumWithoutLetters() {
        fault("0,y,z", 4, 0);
        fault("x,1/2,z", 4, 0);
        fault("x,y,-3/24", 4, 0);
        good("y,x,-z", "y,x,-z", "x,y,z");
    }

    private static void syntaxWhereItLacks() {
        fault("x", 1, 1);
        fault("x,", 1, 2);
        fault("x,y", 1, 3);
        fault("x,y,", 1, 4);
        fault("x,y,z;", 1, 6);
        fault("x,y,z;  ", 1, 8);
        fault("x,y,z;x,y,z;x,y", 1, 15);
        fault("    ", 1, 4);
    }

    /** "TWICE: an x, y, z, or a NUMBER (not behind /) that its SUM has already (at it)". */
    private static void twice() {
        for (char c = 'x'; c <= 'z'; c++) {
            fault(c + "+" + c + ",y,z", 2, 2);
            fault("-" + c + " - " + c, 2, 5);
            fault("x,y,1/2+" + c + "-" + c, 2, 10);
        }
        fault("1+1,y,z", 2, 2);
        fault("1/2+1/3,y,z", 2, 4);
        fault("0-0,y,z", 2, 2);
        fault("x+1+y+12/5", 2, 6);
        fault("x+1+y+123", 1, 6);
        fault("x+y+z-x$", 2, 6);
        good("x+1/2,y+1/2,z;x,y,z", "x,y,z", "x+1/2,y+1/2,z");
        good("x,y,z;x,y,z", "x,y,z");
    }

    /** "PARTS: another NUMBER behind / (at it)". */
    private static void wrongParts() {
        for (int q = 0; q < 100; q++) {
            if (q == 0 || 24 % q != 0) {
                fault("x+1/" + q + ",y,z", 3, 4);
                fault("1 / " + (q < 10 ? "0" : "") + q + "$", 3, 4);
            }
        }
        fault("x,y,z;x,y,1/5+z+z", 3, 12);
    }

    /** "DETERMINANT: of a whole TRIPLE neither 1 nor -1 (at its first TOKEN)". */
    private static void determinants() {
        good("y,x,z", "y,x,z", "x,y,z");
        good("y,z,x", "z,x,y", "y,z,x", "x,y,z");
        fault("x,y,x", 4, 0);
        fault("0,0,0", 4, 0);
        fault("x+y,y-x,z", 4, 0);
        fault("x+y,x-y,z", 4, 0);
        fault("y+z,x+z,x+y", 4, 0);
        fault("y+z-x,x+z-y,x+y-z", 4, 0);
        fault("x+y-z,x-y+z,x-y-z", 4, 0);
        fault("   +x,y,y", 4, 3);
        fault("  1/2-x,y,y", 4, 2);
        fault("x,y,z;-x,y,-y", 4, 6);
        fault("x,y,z;x,y,z ;  z,x,z", 4, 15);
    }

    /** "Told ahead of what is behind it" - and not ahead of what is in it. */
    private static void determinantAheadOfWhatIsBehind() {
        fault("x,y,y$", 4, 0);
        fault("x,y,y x", 4, 0);
        fault("x,y,y,z", 4, 0);
        fault("x,y,y;", 4, 0);
        fault("x,y,y;$", 4, 0);
        fault("x,y,y;x+x,y,z", 4, 0);
        fault("x,y,y/2", 4, 0);
        fault("x,y,y+1/2 3", 4, 0);
        fault("x,y,y;" + TWELVE, 4, 0);
        fault("x,y,y+", 1, 6);
        fault("x,y,y+$", 1, 6);
        fault("x,y,y-y", 2, 6);
        fault("x,y,y+1/7", 3, 8);
        fault("x,y,y+1/123", 1, 8);
    }

    /** "MANY: a 13th TRIPLE (at its first TOKEN)". */
    private static void many() {
        good(TWELVE, "x,y,z");
        good(TWELVE.substring(6) + ";-x,-y,-z", "-x,-y,-z", "x,y,z");
        fault(TWELVE + ";x,y,z", 5, 72);
        fault(TWELVE + ";   x,y,z", 5, 75);
        fault(TWELVE + ";" + TWELVE, 5, 72);
        fault(TWELVE.substring(6) + ";x,y,y;x,y,z", 4, 66);
    }

    /** "Ahead of all of it but SYNTAX at that TOKEN". */
    private static void manyAheadOfAllButSyntax() {
        for (String first : new String[] {"+", "-", "x", "y", "z", "1", "12"}) {
            fault(TWELVE + ";" + first, 5, 72);
            fault(TWELVE + ";" + first + "$", 5, 72);
        }
        fault(TWELVE + ";x+x,y,z", 5, 72);
        fault(TWELVE + ";1/5", 5, 72);
        fault(TWELVE + ";x,y,y", 5, 72);
        fault(TWELVE + ";", 1, 72);
        fault(TWELVE + ";  ", 1, 74);
        fault(TWELVE + ";$", 1, 72);
        fault(TWELVE + "; ,x", 1, 73);
        fault(TWELVE + ";;", 1, 72);
        fault(TWELVE + ";/", 1, 72);
        fault(TWELVE + ";123", 1, 72);
        fault(TWELVE + "$", 1, 71);
    }

    /** A text of all 400 bytes. */
    private static void wholeTape() {
        good(" ".repeat(389) + "x,y,z+12/24", "x,y,z", "x,y,z+1/2");
        good(" ".repeat(392) + "x,y,z+12", "x,y,z");
        fault(" ".repeat(394) + "x,y,z+", 1, 400);
        fault(" ".repeat(395) + "x,y,y", 4, 395);
        good("  -  x  +  1  / 2 , -  y  , - z ;".repeat(11) + "  -  x  +  1  / 2 , -  y  , - z ", "-x+1/2,-y,-z",
            "x,y,z");
    }
}
