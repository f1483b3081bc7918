import java.util.NoSuchElementException;

/** The edges of promises 1 to 6 that are not of one text alone. The document's words stand above each test. */
public final class TapeEdgesTest {
    private static final int BLANKS = 0x20202020;

    public static void main(String[] args) {
        tapeIsEmptyAtFirst();
        outIsEmptyAtFirst();
        highestFirst();
        allBytesCome();
        atMostFourHundred();
        noneComesBeyond();
        firstBytesAlone();
        emptyThen();
        lengthOfRead();
        emptyText();
        everySlot();
        infinite();
        full();
        aheadOfAnyRead();
        otherFaults();
        latestReadThatWasNotNone();
        generatorsOfTexts();
        matricesOfTexts();
        textOfNumbers();
        textOfFractions();
        textOfNoneSuch();
        bytesOfOut();
        outOfAShorterText();
        Check.end();
    }

    private static void faultIs(SymmetryHouse x, String label, int fault, int place, int generators, int matrices) {
        Check.due(label + ": fault(0)", x.fault(0), fault);
        Check.due(label + ": fault(1)", x.fault(1), place);
        Check.due(label + ": fault(2)", x.fault(2), generators);
        Check.due(label + ": fault(3)", x.fault(3), matrices);
    }

    /** "An empty TAPE". */
    private static void tapeIsEmptyAtFirst() {
        SymmetryHouse x = new SymmetryHouse();
        Check.due("one byte of none", x.read(0, 1, true), -1);
        Check.due("no byte of none", x.read(0, 0, true), -2);
        Check.due("the first twenty", x.feed(BLANKS, BLANKS, BLANKS, BLANKS, BLANKS), 20);
    }

    /** "An empty OUT". */
    private static void outIsEmptyAtFirst() {
        SymmetryHouse x = new SymmetryHouse();
        Check.due("out(0)", throwsAt(x, 0), true);
        Check.symbol(x, 0, "P 2");
        Check.due("out(0) behind a read", throwsAt(x, 0), true);
    }

    /** "Of each number the highest first": a byte that no text can have tells its place. */
    private static void highestFirst() {
        for (int place = 0; place < 20; place++) {
            int[] words = {BLANKS, BLANKS, BLANKS, BLANKS, BLANKS};
            words[place / 4] += ('$' - ' ') << 24 - place % 4 * 8;
            SymmetryHouse x = new SymmetryHouse();
            x.feed(words[0], words[1], words[2], words[3], words[4]);
            Check.due("read", x.read(0, 20, false), -2);
            faultIs(x, "byte " + place, 1, place, 0, 0);
        }
    }

    /** "Twenty bytes come": of any number, also one below 0. */
    private static void allBytesCome() {
        SymmetryHouse x = new SymmetryHouse();
        Check.due("feed", x.feed(-1, Integer.MIN_VALUE, Integer.MAX_VALUE, 0, BLANKS), 20);
        Check.due("byte 255", x.read(0, 20, false), -2);
        faultIs(x, "byte 255", 1, 0, 0, 0);
        for (int high = 0; high < 256; high += 5) {
            x = new SymmetryHouse();
            x.feed(high << 24 | 0x202020, BLANKS, BLANKS, BLANKS, BLANKS);
            Check.due("byte " + high, x.read(0, 20, false), -2);
            boolean begins = high == ' ' || high == '-' || high >= '0' && high <= '9' || high >= 'x' && high <= 'z';
            faultIs(x, "byte " + high, 1, begins ? 20 : 0, 0, 0);
        }
    }

    /** "THE TAPE has at most 400 bytes"; "how many it has". */
    private static void atMostFourHundred() {
        SymmetryHouse x = new SymmetryHouse();
        for (int i = 1; i <= 20; i++) {
            Check.due("feed " + i, x.feed(BLANKS, BLANKS, BLANKS, BLANKS, BLANKS), 20 * i);
        }
        Check.due("feed 21", x.feed(BLANKS, BLANKS, BLANKS, BLANKS, BLANKS), -1);
        Check.due("feed 22", x.feed(BLANKS, BLANKS, BLANKS, BLANKS, BLANKS), -1);
        Check.due("401 bytes", x.read(0, 401, true), -1);
        Check.due("400 bytes", x.read(0, 400, true), -2);
        faultIs(x, "400 blanks", 1, 400, 0, 0);
        Check.due("feed again", x.feed(BLANKS, BLANKS, BLANKS, BLANKS, BLANKS), 20);
    }

    /** "NONE, and none comes, if there would be more than 400". */
    private static void noneComesBeyond() {
        SymmetryHouse x = new SymmetryHouse();
        Check.feed(x, " ".repeat(395) + "x,y,z");
        Check.due("feed", x.feed(0x2c78242d, -1, 0, 0x31323334, 0x2b2b2b2b), -1);
        Check.due("feed", x.feed(0, 0, 0, 0, 0), -1);
        Check.due("its 400 bytes", x.read(0, 400, false), 1);
        x = new SymmetryHouse();
        Check.feed(x, "P 4" + " ".repeat(397));
        x.feed(0, 0, 0, 0, 0);
        Check.due("the first ones", x.read(0, 400, true), 4);
    }

    /** "The first n bytes of the TAPE". */
    private static void firstBytesAlone() {
        String text = "-P 4 2 3$";
        int[] answers = {-2, -2, 2, 2, 8, 8, 16, 16, 48, -2};
        for (int n = 0; n < answers.length; n++) {
            SymmetryHouse x = new SymmetryHouse();
            Check.feed(x, text);
            Check.due("read of " + n, x.read(0, n, true), answers[n]);
        }
    }

    /** "(it is empty then)": whatever the answer was, if it was not NONE. */
    private static void emptyThen() {
        String[] texts = {"P 2", "P 5", "P 4 6", "-F 4u 2 3"};
        int[] answers = {2, -2, -3, -4};
        for (int i = 0; i < texts.length; i++) {
            SymmetryHouse x = new SymmetryHouse();
            Check.due("read of " + texts[i], Check.symbol(x, 0, texts[i]), answers[i]);
            Check.due("a byte is left", x.read(0, 1, true), -1);
            Check.due("feed", x.feed(BLANKS, BLANKS, BLANKS, BLANKS, BLANKS), 20);
        }
        SymmetryHouse x = new SymmetryHouse();
        Check.feed(x, "P 2");
        Check.due("read of no byte", x.read(0, 0, true), -2);
        Check.due("empties it too", x.read(0, 1, true), -1);
    }

    /** "NONE, doing nothing, if n is below 0 or more than there are". */
    private static void lengthOfRead() {
        for (int n : new int[] {-1, 21, 400, 401, Integer.MIN_VALUE, Integer.MAX_VALUE}) {
            SymmetryHouse x = new SymmetryHouse();
            Check.feed(x, "P 2" + " ".repeat(17));
            Check.due("read of " + n, x.read(0, n, true), -1);
            Check.due("no group", x.group(0, 0), -1);
            Check.due("no fault", x.fault(0), -1);
            Check.due("all there are", x.read(0, 20, true), 2);
        }
    }

    /** SYNTAX "at the text's length where it lacks": a text without a byte. */
    private static void emptyText() {
        for (boolean symbol : new boolean[] {false, true}) {
            SymmetryHouse x = new SymmetryHouse();
            Check.due("read of nothing", x.read(0, 0, symbol), -2);
            faultIs(x, "nothing", 1, 0, 0, 0);
            Check.due("no group", x.group(0, 0), -1);
        }
    }

    /** "Become the group of a slot": of 0 .. 5 each, and of no other. */
    private static void everySlot() {
        for (int slot = 0; slot < 6; slot++) {
            SymmetryHouse x = new SymmetryHouse();
            Check.due("read to " + slot, Check.symbol(x, slot, "P 4"), 4);
            for (int other = 0; other < 6; other++) {
                Check.due("group of " + other, x.group(other, 0), other == slot ? 4 : -1);
            }
            Check.due("another one in it", Check.symbol(x, slot, "P 3"), 3);
            Check.due("group of " + slot, x.group(slot, 0), 3);
        }
        for (int slot : new int[] {-1, 6, Integer.MIN_VALUE, Integer.MAX_VALUE}) {
            SymmetryHouse x = new SymmetryHouse();
            Check.due("read to " + slot, Check.symbol(x, slot, "P 4"), -1);
            Check.due("nothing was done", x.read(0, 3, true), 4);
        }
    }

    /** "-3 it is INFINITE"; "49 of an INFINITE one". */
    private static void infinite() {
        String[] texts = {"x,x+y,z", "x+y+z,x+y,x", "x+1/24,y-x,z", "-x,-y,-z;x,y,z-y"};
        for (String text : texts) {
            SymmetryHouse x = new SymmetryHouse();
            Check.symbol(x, 0, "-P 4 2 3");
            Check.due("read of <" + text + ">", Check.triples(x, 0, text), -3);
            faultIs(x, text, 0, -1, text.indexOf(';') < 0 ? 1 : 2, 49);
            Check.due("the slot stays", x.group(0, 0), 48);
        }
        SymmetryHouse x = new SymmetryHouse();
        Check.due("all matrices that a finite one can have", Check.symbol(x, 0, "-P 4 2 3"), 48);
        faultIs(x, "m-3m", 0, -1, 4, 48);
        Check.due("two finite ones", Check.symbol(x, 0, "P 4 6"), -3);
        faultIs(x, "4 and 6", 0, -1, 2, 49);
        Check.due("the slot stays", x.group(0, 0), 48);
    }

    /** "-4 FULL": 192 OPERATORS are not. */
    private static void full() {
        SymmetryHouse x = new SymmetryHouse();
        Check.due("192", Check.symbol(x, 0, "-F 4 2 3"), 192);
        faultIs(x, "192", 0, -1, 7, 48);
        Check.due("384", Check.triples(x, 0, "x+1/24,y,z;x,y+1/8,z;-x,-y,-z"), -4);
        faultIs(x, "384", 0, -1, 3, 2);
        Check.due("the slot stays", x.group(0, 0), 192);
        Check.due("13824", Check.triples(x, 0, "x+1/24,y,z;x,y+1/24,z;x,y,z+1/24"), -4);
        faultIs(x, "13824", 0, -1, 3, 1);
        Check.due("192 translations", Check.triples(x, 0, "x+1/24,y,z;x,y+1/8,z"), 192);
        Check.due("216", Check.triples(x, 0, "x+1/6,y,z;x,y+1/6,z;x,y,z+1/6"), -4);
        Check.due("the slot stays", x.group(0, 2), 192);
        Check.due("INFINITE and too many", Check.triples(x, 1, "x+1/24,y,z;x,y+1/24,z;x,x+y,z"), -3);
        faultIs(x, "INFINITE", 0, -1, 3, 49);
        Check.due("no group", x.group(1, 0), -1);
        Check.due("a translation that comes late", Check.triples(x, 0, "x,y,z;".repeat(11) + "x-y,x,z+1/8"), 24);
        Check.due("one in the first of twelve", Check.triples(x, 0, "x,y,z+1/24" + ";-y,x,z".repeat(11)), 96);
    }

    /** "NONE for others, and ahead of any". */
    private static void aheadOfAnyRead() {
        SymmetryHouse x = new SymmetryHouse();
        faultIs(x, "ahead of any", -1, -1, -1, -1);
        x.read(0, 1, true);
        faultIs(x, "behind a read that was NONE", -1, -1, -1, -1);
    }

    private static void otherFaults() {
        String[] texts = {"P 2", "P 5", "P 4 6"};
        for (String text : texts) {
            SymmetryHouse x = new SymmetryHouse();
            Check.symbol(x, 0, text);
            for (int what : new int[] {-1, 4, Integer.MIN_VALUE, Integer.MAX_VALUE}) {
                Check.due("fault(" + what + ")", x.fault(what), -1);
            }
        }
    }

    /** "Of the latest read() that was not NONE". */
    private static void latestReadThatWasNotNone() {
        SymmetryHouse x = new SymmetryHouse();
        Check.symbol(x, 0, "P 3 21");
        faultIs(x, "SCREW", 7, 5, 0, 0);
        x.read(0, 1, true);
        x.read(6, 0, true);
        x.read(0, -1, false);
        faultIs(x, "behind refused ones", 7, 5, 0, 0);
        Check.symbol(x, 0, "-C 2");
        faultIs(x, "without one", 0, -1, 3, 4);
        x.read(0, 1, true);
        faultIs(x, "behind a refused one", 0, -1, 3, 4);
        Check.symbol(x, 0, "P 4 6");
        faultIs(x, "INFINITE", 0, -1, 2, 49);
        Check.triples(x, 0, "x,y,y");
        faultIs(x, "DETERMINANT", 4, 0, 0, 0);
    }

    /** "2: how many GENERATORS". */
    private static void generatorsOfTexts() {
        String[] texts = {"P", "-P", "A", "B", "C", "I", "F", "R", "-F", "-R", "P 1", "P 1 1 1 1", "-F 1 1 1 1",
            "-F 1 1 1 1 (1 2 3)", "P (1 2 3)"};
        int[] generators = {0, 1, 1, 1, 1, 1, 3, 2, 4, 3, 1, 4, 8, 8, 0};
        for (int i = 0; i < texts.length; i++) {
            SymmetryHouse x = new SymmetryHouse();
            Check.symbol(x, 0, texts[i]);
            Check.due("generators of " + texts[i], x.fault(2), generators[i]);
        }
        for (int n = 1; n <= 12; n++) {
            SymmetryHouse x = new SymmetryHouse();
            Check.triples(x, 0, "x,y,z;".repeat(n - 1) + "x,y,z");
            Check.due(n + " triples", x.fault(2), n);
        }
    }

    /** "3: how many matrices these generate": translations do not count. */
    private static void matricesOfTexts() {
        String[] texts = {"P", "F", "R", "-F", "P 21", "I 41b", "-R 3", "F 4d 2 3 -1d", "P 1u 1v 1w"};
        int[] matrices = {1, 1, 1, 2, 2, 4, 6, 48, 1};
        for (int i = 0; i < texts.length; i++) {
            SymmetryHouse x = new SymmetryHouse();
            Check.symbol(x, 0, texts[i]);
            Check.due("matrices of " + texts[i], x.fault(3), matrices[i]);
        }
    }

    private static void textIs(SymmetryHouse x, int slot, int i, String want) {
        int length = x.text(slot, i);
        Check.due("bytes of <" + want + ">", length, want.length());
        Check.due("text", Check.out(x, length), want);
        Check.due("out(" + length + ") throws", throwsAt(x, length), true);
    }

    /** "1 not told, - ahead of one below 0, + ahead of one above 0 that isn't the row's first". */
    private static void textOfNumbers() {
        SymmetryHouse x = new SymmetryHouse();
        Check.triples(x, 0, "x-y,x,z");
        textIs(x, 0, 0, "-x,-y,z");
        textIs(x, 0, 1, "-x+y,-x,z");
        textIs(x, 0, 2, "-y,x-y,z");
        textIs(x, 0, 4, "x-y,x,z");
        x = new SymmetryHouse();
        Check.triples(x, 0, "-z,-x-y-z,x");
        textIs(x, 0, 0, "-x,y+2z,-z");
        textIs(x, 0, 1, "-z,-x-y-z,x");
        textIs(x, 0, 2, "z,x-y-z,-x");
        int[] p = {1, 9, 0, 0, 1, 0, 0, 9, 1};
        for (int k = 0; k < 9; k++) {
            x.basis(k, p[k]);
        }
        Check.triples(x, 0, "x+1/2,-y+1/3,-z");
        Check.due("turn", x.turn(0, 1, false), 2);
        textIs(x, 1, 0, "x-18y+1/2,-y+1/3,-z");
        textIs(x, 1, 1, "x,y,z");
        turnedTextIs("-x,-y,z", new int[] {-5, -3, 0, 8, 5, 5, 5, 3, -1}, 0, "-x,-10x-y-10z,2x+z");
        turnedTextIs("-x,-y,z", new int[] {2, 3, 2, 4, -6, 9, 5, 5, 6}, 1,
            "199x+20y-96z,900x+89y-432z,600x+60y-289z");
        turnedTextIs("-y,x,z", new int[] {-8, -6, 5, -8, -5, 4, 9, 4, -3}, 3,
            "167x-290y-110z,153x-266y-101z,-151x+263y+100z");
        turnedTextIs("z,x,y", new int[] {7, -6, -3, 3, 1, 2, -7, -6, -8}, 0,
            "-131x+999y+298z,-9x+68y+20z,-27x+208y+63z");
        turnedTextIs("z+1/24,x+1/12,y+7/8", new int[] {0, -2, 7, 3, -1, 7, -5, 0, -6}, 2,
            "131x-269y-161z+23/24,140x-287y-172z+1/6,-127x+260y+156z+13/24");
    }

    private static void turnedTextIs(String triples, int[] basis, int i, String want) {
        SymmetryHouse x = new SymmetryHouse();
        for (int k = 0; k < 9; k++) {
            x.basis(k, basis[k]);
        }
        Check.triples(x, 0, triples);
        x.turn(0, 0, false);
        textIs(x, 0, i, want);
    }

    /** "+ and the translation as a fraction of lowest terms, if it is not 0". */
    private static void textOfFractions() {
        String[] parts = {"", "+1/24", "+1/12", "+1/8", "+1/6", "+5/24", "+1/4", "+7/24", "+1/3", "+3/8", "+5/12",
            "+11/24", "+1/2", "+13/24", "+7/12", "+5/8", "+2/3", "+17/24", "+3/4", "+19/24", "+5/6", "+7/8", "+11/12",
            "+23/24"};
        for (int t = 0; t < 24; t++) {
            SymmetryHouse x = new SymmetryHouse();
            Check.triples(x, 0, t + "/24-x," + t + "/24-y,-z");
            textIs(x, 0, 0, "-x" + parts[t] + ",-y" + parts[t] + ",-z");
            x = new SymmetryHouse();
            Check.triples(x, 0, "-x,-y,-z-" + t + "/24");
            textIs(x, 0, 0, "-x,-y,-z" + parts[(24 - t) % 24]);
        }
    }

    /** "NONE (OUT stays) if there is none such". */
    private static void textOfNoneSuch() {
        SymmetryHouse x = new SymmetryHouse();
        Check.symbol(x, 0, "P 21");
        textIs(x, 0, 0, "-x,-y,z+1/2");
        for (int i : new int[] {-1, 2, 192, Integer.MIN_VALUE, Integer.MAX_VALUE}) {
            Check.due("text(0, " + i + ")", x.text(0, i), -1);
        }
        for (int slot : new int[] {-1, 1, 5, 6, Integer.MIN_VALUE, Integer.MAX_VALUE}) {
            Check.due("text(" + slot + ", 0)", x.text(slot, 0), -1);
        }
        Check.due("OUT stays", Check.out(x, 11), "-x,-y,z+1/2");
        Check.due("and has no more", throwsAt(x, 11), true);
        x.read(0, 0, true);
        Check.symbol(x, 0, "P 1");
        Check.due("a read leaves it too", Check.out(x, 11), "-x,-y,z+1/2");
    }

    /** "NoSuchElementException if there is none such". */
    private static void bytesOfOut() {
        SymmetryHouse x = new SymmetryHouse();
        Check.symbol(x, 0, "P 1");
        Check.due("text", x.text(0, 0), 5);
        Check.due("the first", x.out(0), 'x');
        Check.due("the last", x.out(4), 'z');
        for (int i : new int[] {-1, 5, 6, 65, 96, 400, Integer.MIN_VALUE, Integer.MAX_VALUE}) {
            Check.due("out(" + i + ") throws", throwsAt(x, i), true);
        }
    }

    /** A text "comes to OUT": of the one ahead nothing is left. */
    private static void outOfAShorterText() {
        SymmetryHouse x = new SymmetryHouse();
        Check.symbol(x, 0, "-P 2ybc");
        textIs(x, 0, 1, "-x,y+1/2,-z+1/2");
        textIs(x, 0, 3, "x,y,z");
        textIs(x, 0, 0, "-x,-y,-z");
    }

    private static boolean throwsAt(SymmetryHouse x, int i) {
        try {
            x.out(i);
        } catch (NoSuchElementException e) {
            return true;
        }
        return false;
    }
}
