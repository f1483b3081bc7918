/** The edges of a SYMBOL, its GENERATORS and its FAULTS. The document's words stand above each test. */
public final class SymbolEdgesTest {
    private static final String MOVES = "abcnuvwd";

    public static void main(String[] args) {
        blanksAheadAndBehind();
        bytesOfTheFirstWord();
        bytesOfARotation();
        bytesOfAShift();
        lattices();
        minusAhead();
        rotationsAtMostFour();
        moves();
        screws();
        screwsNotBelow();
        screwsBehindOtherAxes();
        oneDigitAlone();
        wrongAxes();
        twelfths();
        shifts();
        shiftIsTheLast();
        alongEachAxis();
        withoutAnAxis();
        whatQuotesLookAt();
        many();
        fromTheLeft();
        wholeTape();
        Check.end();
    }

    /** The slot has a group ahead of it, to see that it stays. */
    private static void fault(String text, int fault, int place) {
        SymmetryHouse x = new SymmetryHouse();
        Check.symbol(x, 0, "P 3 2");
        Check.due("read of <" + text + ">", Check.symbol(x, 0, text), -2);
        Check.due("fault(0) of <" + text + ">", x.fault(0), fault);
        Check.due("fault(1) of <" + text + ">", x.fault(1), place);
        Check.due("fault(2) of <" + text + ">", x.fault(2), 0);
        Check.due("fault(3) of <" + text + ">", x.fault(3), 0);
        Check.due("the slot behind <" + text + ">", x.group(0, 0), 6);
    }

    private static void good(String text) {
        SymmetryHouse x = new SymmetryHouse();
        Check.due("read of <" + text + "> is above 0", Check.symbol(x, 0, text) > 0, true);
        Check.due("fault(0) of <" + text + ">", x.fault(0), 0);
        Check.due("fault(1) of <" + text + ">", x.fault(1), -1);
    }

    /** The symbol's group is that of the triples. */
    private static void same(String symbol, String triples) {
        SymmetryHouse x = new SymmetryHouse();
        Check.symbol(x, 0, symbol);
        Check.triples(x, 1, triples);
        Check.due("<" + symbol + "> and <" + triples + ">", x.compare(0, 1), 3);
    }

    /** "WORDS with blanks between, perhaps ahead and behind". */
    private static void blanksAheadAndBehind() {
        same("   -P   2   2   ", "-x,-y,-z;-x,-y,z;x,-y,-z");
        same("P 2 (1 0 0)   ", "1/6-x,-y,z");
        same("P    (1   0    0)", "x,y,z");
        fault("- P", 1, 1);
        fault("P - 2", 1, 3);
        fault("P 2 x", 1, 4);
        fault("P 4 1 a", 1, 6);
        fault("P\t2", 1, 1);
        fault("P 2\n", 1, 3);
        fault("\tP", 1, 0);
        fault("P2", 1, 1);
        fault("P 2(0 0 0)", 1, 3);
    }

    /**
     * Each byte behind a beginning: with those of whole it is a symbol, with those of open it lacks, and it has FAULT
     * 6, 7 or 8 with the three next; with all others it is SYNTAX.
     */
    private static void bytes(String ahead, String whole, String open, String axes, String screws, String many) {
        for (char c = 0; c < 256; c++) {
            String text = ahead + c;
            if (whole.indexOf(c) >= 0) {
                good(text);
            } else if (open.indexOf(c) >= 0) {
                fault(text, 1, text.length());
            } else {
                int fault = axes.indexOf(c) >= 0 ? 6 : screws.indexOf(c) >= 0 ? 7 : many.indexOf(c) >= 0 ? 8 : 1;
                fault(text, fault, ahead.length());
            }
        }
    }

    private static void bytes(String ahead, String whole, String open) {
        bytes(ahead, whole, open, "", "", "");
    }

    /** "The first one: [-] and P, A, B, C, I, F or R". */
    private static void bytesOfTheFirstWord() {
        bytes("", "PABCIFR", " -");
        bytes("-", "PABCIFR", "");
        bytes("P", " ", "");
        bytes("-R", " ", "");
        bytes("P ", " 12346", "-(");
    }

    /** "A ROTATION: [-], 1, 2, 3, 4 or 6; perhaps an AXIS; then MOVES, and at most one digit 1 to 5". */
    private static void bytesOfARotation() {
        bytes("P -", "12346", "");
        bytes("P 1", " xyz" + MOVES, "", "'\"*", "12345", "");
        bytes("P 2", " xyz'\"1" + MOVES, "", "*", "2345", "");
        bytes("P 3", " xyz*12" + MOVES, "", "'\"", "345", "");
        bytes("P 4", " xyz123" + MOVES, "", "'\"*", "45", "");
        bytes("P 6", " xyz12345" + MOVES, "", "'\"*", "", "");
        bytes("P 2x", " 1" + MOVES, "", "", "2345", "");
        bytes("P 6y", " 12345" + MOVES, "");
        bytes("P 2'", " " + MOVES, "", "", "12345", "");
        bytes("P 2\"", " " + MOVES, "", "", "12345", "");
        bytes("P 3*", " " + MOVES, "", "", "12345", "");
        bytes("P 6a", " 12345" + MOVES, "");
        bytes("P 65", " " + MOVES, "");
        bytes("P 2 ", " 12346", "-(");
        bytes("P 1 1 1 1 ", " ", "(", "", "", "-12346");
    }

    /** "A SHIFT: ( and three WORDS ..", "of ( ) and what is in it too". */
    private static void bytesOfAShift() {
        bytes("P (", "", "-0123456789");
        bytes("P (-", "", "0123456789");
        bytes("P (0", "", " 0123456789");
        bytes("P (1", "", " 01");
        bytes("P (-1", "", " 01");
        bytes("P (2", "", " ");
        bytes("P (9", "", " ");
        bytes("P (11", "", " ");
        bytes("P (00", "", " ");
        bytes("P (0 ", "", " -0123456789");
        bytes("P (0 0", "", " 0123456789");
        bytes("P (0 0 ", "", " -0123456789");
        bytes("P (0 0 -", "", "0123456789");
        bytes("P (0 0 0", ")", "0123456789");
        bytes("P (0 0 1", ")", "01");
        bytes("P (0 0 11", ")", "");
        bytes("P (0 0 0)", " ", "");
        bytes("P (0 0 0) ", " ", "");
    }

    /** "The translations of P none; A 0 12 12; .. R 16 8 8 and 8 16 16 (each with the identity)". */
    private static void lattices() {
        same("P", "x,y,z");
        same("A", "x,y+1/2,z+1/2");
        same("B", "x+1/2,y,z+1/2");
        same("C", "x+1/2,y+1/2,z");
        same("I", "x+1/2,y+1/2,z+1/2");
        same("F", "x,y+1/2,z+1/2;x+1/2,y,z+1/2;x+1/2,y+1/2,z");
        same("R", "x+2/3,y+1/3,z+1/3;x+1/3,y+2/3,z+2/3");
        String[] symbols = {"P", "A", "B", "C", "I", "F", "R", "-F", "-R"};
        int[] orders = {1, 2, 2, 2, 2, 4, 3, 8, 6};
        for (int i = 0; i < symbols.length; i++) {
            SymmetryHouse x = new SymmetryHouse();
            Check.due("order of " + symbols[i], Check.symbol(x, 0, symbols[i]), orders[i]);
        }
    }

    /** "With a - ahead: (-identity, 0 0 0)"; "with a - ahead every number less than 0 for above". */
    private static void minusAhead() {
        same("-P", "-x,-y,-z");
        same("-I", "-x,-y,-z;x+1/2,y+1/2,z+1/2");
        same("P -1", "-x,-y,-z");
        same("P -2", "x,y,-z");
        same("P -3", "y,y-x,-z");
        same("P -4", "y,-x,-z");
        same("P -6", "y-x,-x,-z");
        same("P -2'", "y,x,z");
        same("P -2\"", "-y,-x,z");
        same("P -3*", "-z,-x,-y");
        same("P -41", "y,-x,1/4-z");
        same("P -2c", "x,y,1/2-z");
        fault("--P", 1, 1);
        fault("P --2", 1, 3);
    }

    /** "Then at most four ROTATIONS, then perhaps a SHIFT". */
    private static void rotationsAtMostFour() {
        good("P");
        good("P 2");
        good("P 2 2");
        good("P 2 2 2");
        good("P 2 2 2 2");
        good("P 2 2 2 2 (0 0 0)");
        good("P (0 0 0)");
        fault("P 2 2 2 2 2", 8, 10);
        fault("P 2 2 2 2 2 (0 0 0)", 8, 10);
    }

    /** "a 12 0 0, b 0 12 0, c 0 0 12, n 12 12 12, u 6 0 0, v 0 6 0, w 0 0 6, d 6 6 6", round from 24. */
    private static void moves() {
        same("P -1a", "1/2-x,-y,-z");
        same("P -1b", "-x,1/2-y,-z");
        same("P -1c", "-x,-y,1/2-z");
        same("P -1n", "1/2-x,1/2-y,1/2-z");
        same("P -1u", "1/4-x,-y,-z");
        same("P -1v", "-x,1/4-y,-z");
        same("P -1w", "-x,-y,1/4-z");
        same("P -1d", "1/4-x,1/4-y,1/4-z");
        same("P -1nd", "3/4-x,3/4-y,3/4-z");
        same("P -1uuu", "3/4-x,-y,-z");
        same("P -1aa", "-x,-y,-z");
        same("P -1uuuu", "-x,-y,-z");
        same("P -1nabc", "-x,-y,-z");
        same("P -1dddddn", "3/4-x,3/4-y,3/4-z");
        same("P 43w", "-y,x,z");
        same("P 43c", "-y,x,z+1/4");
        same("P 65c", "x-y,x,z+1/3");
        same("P 6c5", "x-y,x,z+1/3");
        same("P -1" + "d".repeat(390), "1/2-x,1/2-y,1/2-z");
    }

    /** "A digit k: k times 24 / N along the axis x, y or z". */
    private static void screws() {
        int[] turns = {2, 3, 4, 6};
        for (int turn : turns) {
            for (int k = 1; k < turn; k++) {
                for (char axis = 'x'; axis <= 'z'; axis++) {
                    same("P " + turn + axis + k, along(turn, axis, "+" + 24 / turn * k + "/24"));
                }
                same("P " + turn + k, along(turn, 'z', "+" + 24 / turn * k + "/24"));
            }
        }
    }

    /** "SCREW: a digit not below N (at it)": 6 and more are no digits that could stand, nor is 0. */
    private static void screwsNotBelow() {
        for (int turn : new int[] {1, 2, 3, 4, 6}) {
            for (int k = 0; k < 10; k++) {
                for (String axis : new String[] {"", "x", "z"}) {
                    String text = "P " + turn + axis + k;
                    if (k < 1 || k > 5) {
                        fault(text, 1, text.length() - 1);
                    } else if (k >= turn) {
                        fault(text, 7, text.length() - 1);
                    } else {
                        good(text);
                    }
                }
            }
        }
        fault("P 2ab2", 7, 5);
        fault("P -33", 7, 4);
        fault("P 44$", 7, 3);
    }

    /** "Or behind ', \", * (told or not; at it)". */
    private static void screwsBehindOtherAxes() {
        fault("P 2'1", 7, 4);
        fault("P 2\"1", 7, 4);
        fault("P 3*1", 7, 4);
        fault("P 3*2", 7, 4);
        fault("P 3 21", 7, 5);
        fault("P 6 21", 7, 5);
        fault("P -3 -21", 7, 7);
        fault("P 3 2c1", 7, 6);
        fault("P 2 2 31", 7, 7);
        fault("P 2 2 -3n2", 7, 9);
        same("P 4 21", "-y,x,z;x+1/2,-y,-z");
        same("P 2 21", "-x,-y,z;x+1/2,-y,-z");
        same("P 1 21", "-x,-y,z+1/2");
        same("P 3 2z1", "-y,x-y,z;-x,-y,z+1/2");
        same("P 1 1 3z1", "-y,x-y,z+1/3");
        same("P 1 31", "-y,x-y,z+1/3");
        same("P 1 1 1 31", "-y,x-y,z+1/3");
    }

    /** "At most one digit". */
    private static void oneDigitAlone() {
        fault("P 411", 1, 4);
        fault("P 4x12", 1, 5);
        fault("P 41c1", 1, 5);
        fault("P 6a1b5", 1, 6);
        fault("P 414", 1, 4);
    }

    /** "AXIS: ' or \" of another one than 2, * of another one than 3 (at it)". */
    private static void wrongAxes() {
        for (int turn : new int[] {1, 2, 3, 4, 6}) {
            for (String minus : new String[] {"", "-"}) {
                String text = "P " + minus + turn;
                for (char axis : new char[] {'\'', '"', '*'}) {
                    if (axis == '*' ? turn == 3 : turn == 2) {
                        good(text + axis);
                    } else {
                        fault(text + axis, 6, text.length());
                        fault(text + axis + "$", 6, text.length());
                    }
                }
            }
        }
        fault("P 2x'", 1, 4);
        fault("P 3a*", 1, 4);
        fault("P 2''", 1, 4);
        fault("P 3**", 1, 4);
    }

    /** "Each perhaps - and one or two digits, not above 11 (a digit that makes it more can't stand)". */
    private static void twelfths() {
        for (int k = 0; k < 3; k++) {
            String ahead = "-P (" + "0 ".repeat(k);
            String behind = " 0".repeat(2 - k) + ")";
            for (int s = 0; s < 100; s++) {
                for (String minus : new String[] {"", "-"}) {
                    String word = minus + s;
                    if (s < 12) {
                        good(ahead + word + behind);
                        good(ahead + minus + (s < 10 ? "0" : "") + s + behind);
                    } else {
                        fault(ahead + word + behind, 1, ahead.length() + word.length() - 1);
                    }
                }
            }
            fault(ahead + "011" + behind, 1, ahead.length() + 2);
            fault(ahead + "110" + behind, 1, ahead.length() + 2);
            fault(ahead + "-" + behind, 1, ahead.length() + 1);
            fault(ahead + "--1" + behind, 1, ahead.length() + 1);
            fault(ahead + "+1" + behind, 1, ahead.length());
        }
        fault("P ( 0 0 0)", 1, 3);
        fault("P (0 0 0 )", 1, 8);
        fault("P (0 0)", 1, 6);
        fault("P (0)", 1, 4);
        fault("P ()", 1, 3);
        fault("P (0 0 0 0)", 1, 8);
        fault("P (0,0,0)", 1, 4);
    }

    /** "In twelfths: of all t becomes t + 2 s - 2 R s", round from 24. */
    private static void shifts() {
        same("-P (0 0 0)", "-x,-y,-z");
        for (int s = -11; s < 12; s++) {
            SymmetryHouse x = new SymmetryHouse();
            Check.symbol(x, 0, "-P (" + s + " 0 " + -s + ")");
            Check.due("the first of " + s, x.operator(0, 0, 9), Math.floorMod(4 * s, 24));
            Check.due("the second of " + s, x.operator(0, 0, 10), 0);
            Check.due("the third of " + s, x.operator(0, 0, 11), Math.floorMod(-4 * s, 24));
        }
        same("P 4 (0 3 0)", "1/4-y,1/4+x,z");
        same("P 4 (-1 0 5)", "-1/12-y,1/12+x,z");
        same("P 3 (1 0 0)", "1/12-y,x-y-1/12,z");
        same("P 41 (0 0 7)", "-y,x,z+1/4");
        same("I 2 (1 -1 0)", "1/6-x,-1/6-y,z;x+1/2,y+1/2,z+1/2");
        same("R (1 2 3)", "x+2/3,y+1/3,z+1/3");
        same("P 2 2 (0 0 1)", "-x,-y,z;x,-y,1/6-z");
        same("P 1 (1 2 3)", "x,y,z");
        same("P -1a (3 0 0)", "-x,-y,-z");
    }

    /** "Then perhaps a SHIFT": nothing but blanks behind it. */
    private static void shiftIsTheLast() {
        fault("P (0 0 0)2", 1, 9);
        fault("P (0 0 0) 2", 1, 10);
        fault("P (0 0 0) (0 0 0)", 1, 10);
        fault("P (0 0 0))", 1, 9);
        fault("P 2 2 2 2 (0 0 0) 2", 1, 18);
        fault("P (0 0 0) -", 1, 10);
        good("P (0 0 0)   ");
    }

    /** The matrix of a rotation along an axis as a triple, with a move along it. */
    private static String along(int turn, char axis, String move) {
        String[] rows = turn == 1 ? new String[] {"x", "y", "z"} : turn == 2 ? new String[] {"-x", "-y", "z"}
            : turn == 3 ? new String[] {"-y", "x-y", "z"} : turn == 4 ? new String[] {"-y", "x", "z"}
            : new String[] {"x-y", "x", "z"};
        rows[2] += move;
        return put(rows, axis);
    }

    /** "Along x: row and column 1 are those of number 3 along z, 2 those of 1, 3 those of 2"; along y likewise. */
    private static String put(String[] rows, char axis) {
        String letters = axis == 'x' ? "yzx" : axis == 'y' ? "zxy" : "xyz";
        StringBuilder triple = new StringBuilder();
        for (int r = 0; r < 3; r++) {
            int from = axis == 'x' ? (r + 2) % 3 : axis == 'y' ? (r + 1) % 3 : r;
            for (char c : rows[from].toCharArray()) {
                triple.append(c >= 'x' && c <= 'z' ? letters.charAt(c - 'x') : c);
            }
            triple.append(r < 2 ? "," : "");
        }
        return triple.toString();
    }

    private static void alongEachAxis() {
        for (int turn : new int[] {1, 2, 3, 4, 6}) {
            for (char axis = 'x'; axis <= 'z'; axis++) {
                same("P " + turn + axis, along(turn, axis, ""));
                same("P " + turn + axis, along(turn, axis, "+0"));
            }
        }
        same("P 4x", "x,-z,y");
        same("P 4y", "z,y,-x");
        same("P 4z", "-y,x,z");
        same("P 6x", "x,y-z,y");
        same("P 6y", "z,y,z-x");
        same("P 3x", "x,-z,y-z");
        same("P 3y", "z-x,y,-x");
        same("P 3*", "z,x,y");
    }

    /** "A 2 that is the second ROTATION: x behind a 2 or 4, ' behind a 3 or 6; a 3 that is the third one: *". */
    private static void withoutAnAxis() {
        String z = "-x,-y,z";
        String quoted = "-y,-x,-z";
        same("P 2", z);
        same("P 1 2", "x,y,z;" + z);
        same("P 2 2", z + ";x,-y,-z");
        same("P -2 2", "x,y,-z;x,-y,-z");
        same("P 2y 2", "-x,y,-z;x,-y,-z");
        same("P 2' 2", quoted + ";x,-y,-z");
        same("P 3 2", "-y,x-y,z;" + quoted);
        same("P -3 2", "y,y-x,-z;" + quoted);
        same("P 3* 2", "z,x,y;" + quoted);
        same("P 4 2", "-y,x,z;x,-y,-z");
        same("P -4 -2", "y,-x,-z;-x,y,z");
        same("P 6 2", "x-y,x,z;" + quoted);
        same("P 1 1 2", z);
        same("P 2 1 2", z);
        same("P 3 1 2", "-y,x-y,z;" + z);
        same("P 1 3 2", "-y,x-y,z;" + z);
        same("P 1 1 1 2", z);
        same("P 1 1 3 2", "z,x,y;" + z);
        same("P 3", "-y,x-y,z");
        same("P 1 3", "-y,x-y,z");
        same("P 1 1 3", "z,x,y");
        same("P 1 1 -3", "-z,-x,-y");
        same("P 1 1 1 3", "-y,x-y,z");
        same("P 1 4", "-y,x,z");
        same("P 1 1 4", "-y,x,z");
        same("P 1 1 6", "x-y,x,z");
        same("P 2x 4", "x,-y,-z;-y,x,z");
    }

    /** "What ' and \" look at is the AXIS of the ROTATION ahead, if that is x, y or z, else z". */
    private static void whatQuotesLookAt() {
        String[] one = {"-y", "-x", "-z"};
        String[] two = {"y", "x", "-z"};
        same("P 2'", put(one, 'z'));
        same("P 2\"", put(two, 'z'));
        for (char axis = 'x'; axis <= 'z'; axis++) {
            same("P 1" + axis + " 2'", put(one, axis));
            same("P 1" + axis + " 2\"", put(two, axis));
            same("P 1" + axis + " -2'", put(new String[] {"y", "x", "z"}, axis));
            same("P 1 1" + axis + " 2'", put(one, axis));
            same("P 3" + axis + " 2", along(3, axis, "") + ";" + put(one, axis));
            same("P 6" + axis + " 2", along(6, axis, "") + ";" + put(one, axis));
        }
        same("P 1 2'", put(one, 'z'));
        same("P 1x 1 2'", put(one, 'z'));
        same("P 2 2 2'", "-x,-y,z;x,-y,-z;" + put(one, 'x'));
        same("P 2x 2' 2'", "x,-y,-z;" + put(one, 'x') + ";" + put(one, 'z'));
        same("P 1x 2\" 2\"", put(two, 'x') + ";" + put(two, 'z'));
        same("P 3* 2\"", "z,x,y;" + put(two, 'z'));
        same("P 1 1x 3 2'", "z,x,y;" + put(one, 'z'));
        SymmetryHouse x = new SymmetryHouse();
        Check.due("3 and ' along z, \" along z", Check.symbol(x, 0, "P 3 2 2\""), 12);
        Check.due("3 and ' along x, \" along z", Check.symbol(x, 0, "P 3x 2 2\""), -3);
    }

    /** "MANY: a fifth ROTATION (at its first byte)". */
    private static void many() {
        for (String first : new String[] {"1", "2", "3", "4", "6", "-", "-5", "-$", "2$", "3'", "29"}) {
            fault("P 1 1 1 1 " + first, 8, 10);
        }
        fault("-F 1 1 1 1    2", 8, 14);
        fault("P 1 1 1 1 5", 1, 10);
        fault("P 1 1 1 1 x", 1, 10);
        fault("P 1 1 1 1 )", 1, 10);
        fault("P 1 1 1 1 (", 1, 11);
        good("P 1 1 1 1 ");
    }

    /** "FAULTS of a SYMBOL, from the left". */
    private static void fromTheLeft() {
        fault("P 3' 5", 6, 3);
        fault("P 22 3'", 7, 3);
        fault("P 5 3'", 1, 2);
        fault("P 3'1", 6, 3);
        fault("P 2'1$", 7, 4);
        fault("P 1 1 1 3' 1", 6, 9);
        fault("P 1 1 1 22 1", 7, 9);
        fault("P 1 1 1 1$ 1", 1, 9);
        fault("Q 3'", 1, 0);
    }

    /** A text of all 400 bytes. */
    private static void wholeTape() {
        same(" ".repeat(399) + "I", "x+1/2,y+1/2,z+1/2");
        fault(" ".repeat(399) + "-", 1, 400);
        fault(" ".repeat(400), 1, 400);
        fault("P (0 0 0" + " ".repeat(392), 1, 8);
        fault("P (0 0" + " ".repeat(394), 1, 400);
        good("P 2" + " ".repeat(397));
    }
}
