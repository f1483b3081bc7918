/** The edges of PART 3 and of promises 7 and 11 to 16. The document's words stand above each test. */
public final class GroupEdgesTest {
    private static final int[] NO_SLOTS = {-1, 2, 5, 6, Integer.MIN_VALUE, Integer.MAX_VALUE};
    private static final String[] CLASSES = {"P 1", "-P 1", "P 2y", "P -2y", "-P 2y", "P 2 2", "P 2 -2", "-P 2 2",
        "P 4", "P -4", "-P 4", "P 4 2", "P 4 -2", "P -4 2", "-P 4 2", "P 3", "-P 3", "P 3 2", "P 3 -2", "-P 3 2", "P 6",
        "P -6", "-P 6", "P 6 2", "P 6 -2", "P -6 2", "-P 6 2", "P 2 2 3", "-P 2 2 3", "P 4 2 3", "P -4 2 3", "-P 4 2 3"};

    public static void main(String[] args) {
        classesAndSystems();
        pureTranslations();
        inversionAmongMatrices();
        vectorsLeft();
        exchangedOnes();
        setsOfOperators();
        determinants();
        otherNumbersOfAGroup();
        compares();
        comparesThatLack();
        commons();
        commonsThatLack();
        cosetsAndNumbers();
        cosetsNotWithin();
        cosetsThatLack();
        cosetsOfNoneSuch();
        normals();
        normalsRefused();
        partsByDeterminant();
        partsByTypeOne();
        partsByType();
        partsThatAreNone();
        partsOfNoType();
        partsThatLack();
        Check.end();
    }

    private static SymmetryHouse symbols(String... texts) {
        SymmetryHouse x = new SymmetryHouse();
        for (int i = 0; i < texts.length; i++) {
            boolean triples = texts[i].indexOf(',') >= 0;
            int answer = triples ? Check.triples(x, i, texts[i]) : Check.symbol(x, i, texts[i]);
            Check.due("read of <" + texts[i] + "> is above 0", answer > 0, true);
        }
        return x;
    }

    private static void group(String text, int what, int want) {
        Check.due("group(" + text + ", " + what + ")", symbols(text).group(0, what), want);
    }

    /** "1 triclinic (classes 1, 2), 2 monoclinic (3 to 5), .. 7 cubic". */
    private static void classesAndSystems() {
        int[] firsts = {1, 3, 6, 9, 16, 21, 28, 33};
        for (int system = 1; system <= 7; system++) {
            for (int k = firsts[system - 1]; k < firsts[system]; k++) {
                group(CLASSES[k - 1], 3, k);
                group(CLASSES[k - 1], 4, system);
            }
        }
        group("-F 4ud 2vw 3", 3, 32);
        group("R 1", 3, 1);
        group("P 21", 3, 3);
        group("P -6c 2", 3, 26);
        group("P 3* 2", 3, 18);
    }

    /** "0: its order, 1: how many matrices, 2: how many pure translations (with the identity one, too)". */
    private static void pureTranslations() {
        group("P 1", 2, 1);
        group("P 41", 2, 1);
        group("F 1", 2, 4);
        group("R 3", 2, 3);
        group("x+1/24,y,z", 2, 24);
        group("x+1/24,y,z;x,y+1/8,z", 2, 192);
        group("-x,-y,z+1/4", 2, 2);
        group("-x,-y,z+1/4", 1, 2);
        group("-x,-y,z+1/4", 0, 4);
        group("-F 4 2 3", 0, 192);
        group("-F 4 2 3", 1, 48);
        group("-F 4 2 3", 2, 4);
    }

    /** "5: whether it has -identity among its matrices": with any translation. */
    private static void inversionAmongMatrices() {
        group("P 1", 5, 0);
        group("-P 1", 5, 1);
        group("P -1u", 5, 1);
        group("P -2", 5, 0);
        group("P -6", 5, 0);
        group("P -3", 5, 1);
        group("P 2 2 -1n", 5, 1);
    }

    /** "6: whether some vector but 0 is left by all matrices". */
    private static void vectorsLeft() {
        int[] polar = {1, 3, 4, 7, 9, 13, 16, 19, 21, 25};
        for (int k = 1; k <= 32; k++) {
            int want = 0;
            for (int p : polar) {
                want = p == k ? 1 : want;
            }
            group(CLASSES[k - 1], 6, want);
        }
    }

    /** "7: whether all OPERATORS are exchanged with one another, 8: how many OPERATORS are exchanged with all". */
    private static void exchangedOnes() {
        group("P 1", 7, 1);
        group("P 1", 8, 1);
        group("P 61", 7, 1);
        group("P 61", 8, 6);
        group("P 3 2", 7, 0);
        group("P 3 2", 8, 1);
        group("P 4 2", 8, 2);
        group("I -1", 7, 1);
        group("I -1", 8, 4);
        group("-x,-y,-z;x+1/4,y,z", 7, 0);
        group("-x,-y,-z;x+1/4,y,z", 8, 2);
        group("-x,-y,-z;x+1/2,y,z", 7, 1);
        group("P 2ac 2ab", 7, 1);
    }

    /** "9: how many sets of OPERATORS that are led to one another by those of the group". */
    private static void setsOfOperators() {
        group("P 1", 9, 1);
        group("P 61", 9, 6);
        group("P 3 2", 9, 3);
        group("P 4 2", 9, 5);
        group("P 2 2 3", 9, 4);
        group("P 4 2 3", 9, 5);
        group("-P 4 2 3", 9, 10);
        group("-x,-y,-z;x+1/4,y,z", 9, 5);
        group("-x,-y,-z;x+1/3,y,z", 9, 3);
    }

    /** "10: whether all determinants are 1". */
    private static void determinants() {
        group("P 1", 10, 1);
        group("P 4 2 3", 10, 1);
        group("-P 1", 10, 0);
        group("P -4", 10, 0);
        group("P -2", 10, 0);
    }

    /** "NONE if the slot has no group, .. or for another what". */
    private static void otherNumbersOfAGroup() {
        SymmetryHouse x = symbols("P 2", "P 4");
        for (int what : new int[] {-1, 12, 13, Integer.MIN_VALUE, Integer.MAX_VALUE}) {
            Check.due("group(0, " + what + ")", x.group(0, what), -1);
        }
        Check.due("group(0, 11)", x.group(0, 11), 2);
        for (int slot : NO_SLOTS) {
            for (int what = -1; what < 13; what++) {
                Check.due("group(" + slot + ", " + what + ")", x.group(slot, what), -1);
            }
        }
    }

    /** "3 if both have the same OPERATORS, 1 if the first has all of the second one's, 2 .., 0 else". */
    private static void compares() {
        String[][] pairs = {{"P 2 2", "x,-y,-z;-x,y,-z"}, {"P 2 2", "P 2"}, {"P 2", "P 2 2"}, {"P 4", "P 2 2"},
            {"P", "P 4"}, {"I 4", "P 4"}, {"P 21", "P 2"}, {"I 42", "P 4"}, {"P", "P"}, {"F", "I"}};
        int[] answers = {3, 1, 2, 0, 2, 1, 0, 0, 3, 0};
        for (int i = 0; i < pairs.length; i++) {
            Check.due("compare of " + pairs[i][0] + " and " + pairs[i][1], symbols(pairs[i]).compare(0, 1), answers[i]);
        }
        Check.due("a slot by itself", symbols("P 4").compare(0, 0), 3);
    }

    /** "NONE if one lacks". */
    private static void comparesThatLack() {
        SymmetryHouse x = symbols("P 2", "P 4");
        for (int slot : NO_SLOTS) {
            Check.due("compare(" + slot + ", 0)", x.compare(slot, 0), -1);
            Check.due("compare(0, " + slot + ")", x.compare(0, slot), -1);
            Check.due("compare(" + slot + ", " + slot + ")", x.compare(slot, slot), -1);
        }
    }

    private static void common(String one, String two, String want) {
        SymmetryHouse x = symbols(one, two, want);
        Check.due("common of " + one + " and " + two, x.common(0, 1, 3), x.group(2, 0));
        Check.due("is " + want, x.compare(2, 3), 3);
        for (int to = 0; to < 2; to++) {
            x = symbols(one, two, want);
            Check.due("common in slot " + to, x.common(0, 1, to), x.group(2, 0));
            Check.due("is " + want, x.compare(2, to), 3);
        }
    }

    /** "The OPERATORS that both have": the identity at least. */
    private static void commons() {
        common("P 4", "P 4", "P 4");
        common("P 4", "P 3", "P");
        common("P 41", "P 43", "P 21");
        common("P 21", "P 2", "P");
        common("I 4", "I 41b", "I 2");
        common("F 4 2 3", "I 4", "P 4");
        common("-P 6 2", "-P 4 2", "-P 2 2'");
        common("x+1/24,y,z", "x+1/8,y,z;x,y+1/2,z", "x+1/8,y,z");
        common("x+1/8,y,z", "x+1/3,y,z", "P");
        common("C 2", "1/2-x,1/2-y,z", "1/2-x,1/2-y,z");
        common("1/2-x,1/2-y,z", "C 2", "1/2-x,1/2-y,z");
        common("F 2", "1/2-x,-y,z+1/2;x,y+1/2,z+1/2", "1/2-x,-y,z+1/2;x,y+1/2,z+1/2");
    }

    /** "NONE if one lacks or there is no such slot". */
    private static void commonsThatLack() {
        SymmetryHouse x = symbols("P 2", "P 4");
        for (int slot : NO_SLOTS) {
            Check.due("common(" + slot + ", 0, 1)", x.common(slot, 0, 1), -1);
            Check.due("common(0, " + slot + ", 1)", x.common(0, slot, 1), -1);
            Check.due("the slot stays", x.group(1, 0), 4);
        }
        for (int slot : new int[] {-1, 6, Integer.MIN_VALUE, Integer.MAX_VALUE}) {
            Check.due("common(0, 1, " + slot + ")", x.common(0, 1, slot), -1);
        }
        Check.due("to a slot without one", x.common(0, 1, 5), 2);
    }

    /** "Sets by their least OPERATORS, from 0 on": o H, not H o. */
    private static void cosetsAndNumbers() {
        sets("P 3 2", "-y,-x,-z", 3, "0 0 1 2 1 2");
        sets("P 3 2", "P 3", 2, "0 1 1 0 0 1");
        sets("P 3 2", "P", 6, "0 1 2 3 4 5");
        sets("P 3 2", "P 3 2", 1, "0 0 0 0 0 0");
        sets("I 2", "P 2", 2, "0 1 0 1");
        sets("I 2", "I", 2, "0 0 1 1");
        sets("I 2", "1/2-x,1/2-y,z+1/2", 2, "0 1 1 0");
        sets("P", "P", 1, "0");
    }

    private static void sets(String one, String two, int count, String want) {
        SymmetryHouse x = symbols(one, two);
        Check.due("sets of " + one + " by " + two, x.cosets(0, 1), count);
        StringBuilder got = new StringBuilder();
        for (int i = 0; i < x.group(0, 0); i++) {
            got.append(i > 0 ? " " : "").append(x.coset(0, 1, i));
        }
        Check.due("numbers of " + one + " by " + two, got.toString(), want);
    }

    /** "-2 if the first one hasn't all of the second one's". */
    private static void cosetsNotWithin() {
        String[][] pairs = {{"P 2", "P 4"}, {"P 4", "P 2 2"}, {"P 4", "P 41"}, {"P 4", "I 2"}};
        for (String[] pair : pairs) {
            SymmetryHouse x = symbols(pair);
            Check.due("cosets of " + pair[0] + " by " + pair[1], x.cosets(0, 1), -2);
            Check.due("coset of " + pair[0] + " by " + pair[1], x.coset(0, 1, 0), -2);
            Check.due("normal of " + pair[0] + " by " + pair[1], x.normal(0, 1), -2);
        }
    }

    /** "NONE if one lacks". */
    private static void cosetsThatLack() {
        SymmetryHouse x = symbols("P 2", "P 4");
        for (int slot : NO_SLOTS) {
            Check.due("cosets(" + slot + ", 0)", x.cosets(slot, 0), -1);
            Check.due("cosets(0, " + slot + ")", x.cosets(0, slot), -1);
            Check.due("coset(" + slot + ", 0, 0)", x.coset(slot, 0, 0), -1);
            Check.due("coset(0, " + slot + ", 0)", x.coset(0, slot, 0), -1);
        }
    }

    /** "NONE if there is no such OPERATOR". */
    private static void cosetsOfNoneSuch() {
        SymmetryHouse x = symbols("P 4", "P 2");
        for (int i : new int[] {-1, 4, 192, Integer.MIN_VALUE, Integer.MAX_VALUE}) {
            Check.due("coset(0, 1, " + i + ")", x.coset(0, 1, i), -1);
        }
        Check.due("coset(0, 1, 3)", x.coset(0, 1, 3), 0);
        Check.due("coset(0, 1, 2)", x.coset(0, 1, 2), 1);
    }

    /** "Whether o H is H o for all o of the first group". */
    private static void normals() {
        String[][] pairs = {{"P 3 2", "-y,-x,-z"}, {"P 3 2", "P 3"}, {"P 3 2", "P"}, {"P 3 2", "P 3 2"},
            {"-x,-y,z;x+1/4,y,z", "P 2"}, {"-x,-y,z;x+1/2,y,z", "P 2"}, {"-x,-y,z;x+1/4,y,z", "x+1/4,y,z"},
            {"P 4 2", "x,-y,-z"}, {"P 4 2", "P 2 2"}, {"P 2 2 3", "P 2"}};
        int[] answers = {0, 1, 1, 1, 0, 1, 1, 0, 1, 0};
        for (int i = 0; i < pairs.length; i++) {
            Check.due("normal of " + pairs[i][0] + " by " + pairs[i][1], symbols(pairs[i]).normal(0, 1), answers[i]);
        }
    }

    /** "-2, NONE as cosets()". */
    private static void normalsRefused() {
        SymmetryHouse x = symbols("P 4", "P 2");
        for (int slot : NO_SLOTS) {
            Check.due("normal(" + slot + ", 0)", x.normal(slot, 0), -1);
            Check.due("normal(0, " + slot + ")", x.normal(0, slot), -1);
        }
        Check.due("normal(0, 1)", x.normal(0, 1), 1);
        Check.due("normal(1, 0)", x.normal(1, 0), -2);
    }

    private static void part(String text, int which, int t, String want) {
        SymmetryHouse x = symbols(text, want);
        String call = "part(" + text + ", " + which + ", " + t + ")";
        Check.due(call, x.part(0, which, t, 3), x.group(1, 0));
        Check.due(call + " is " + want, x.compare(1, 3), 3);
        Check.due(call + " in its own slot", x.part(0, which, t, 0), x.group(1, 0));
        Check.due(call + " in its own slot is " + want, x.compare(1, 0), 3);
    }

    /** "Which 0: those with determinant 1 (t is of no matter)". */
    private static void partsByDeterminant() {
        for (int t : new int[] {1, 0, 5, -7, Integer.MIN_VALUE, Integer.MAX_VALUE}) {
            part("-P 4 2", 0, t, "P 4 2");
            part("P -4", 0, t, "P 2");
        }
        part("-P", 0, 1, "P");
        part("I -1", 0, 1, "I");
        part("P 61", 0, 1, "P 61");
        part("P", 0, 1, "P");
    }

    /** "1: those with a matrix of TYPE 1". */
    private static void partsByTypeOne() {
        part("-F 4 2 3", 1, 1, "F");
        part("P 41", 1, 4, "P");
        part("-x,-y,z+1/4", 1, 2, "x,y,z+1/2");
        part("P", 1, 1, "P");
    }

    /** "2: those of TYPE 1 and t": one that it has not leaves TYPE 1. */
    private static void partsByType() {
        part("-P 4 2 3", 2, -1, "-P");
        part("-P 4 2 3", 2, 1, "P");
        part("-P 4 2 3", 2, 6, "P");
        part("-P 4 2 3", 2, -6, "P");
        part("P 2 2", 2, 2, "P 2 2");
        part("P 2 2 3", 2, 2, "P 2 2");
        part("P 3 2", 2, 3, "P 3");
        part("P -4", 2, 2, "P 2");
        part("P -2yc", 2, -2, "P -2yc");
        part("-R 3", 2, 3, "R 3");
        part("-R 3", 2, -1, "-R");
        part("I 41b", 2, 2, "I 2");
    }

    /** "0, and the slot stays, if not". */
    private static void partsThatAreNone() {
        String[] texts = {"P 3 2", "P 4", "P -4", "P 6", "-P 6", "P -6", "P -3", "-P 4 2 3", "-P 4 2 3"};
        int[] types = {2, 4, -4, 6, -6, -6, -3, 3, -2};
        for (int i = 0; i < texts.length; i++) {
            SymmetryHouse x = symbols(texts[i], "P 2y");
            Check.due("part(" + texts[i] + ", 2, " + types[i] + ")", x.part(0, 2, types[i], 1), 0);
            Check.due("the slot stays", x.group(1, 0), 2);
            Check.due("to a slot without one", x.part(0, 2, types[i], 4), 0);
            Check.due("the slot stays without", x.group(4, 0), -1);
        }
    }

    /** "NONE if .. there is no such .. TYPE"; another which is none of the three. */
    private static void partsOfNoType() {
        SymmetryHouse x = symbols("-P 4 2 3", "P 2y");
        for (int t : new int[] {0, 5, -5, 7, -7, Integer.MIN_VALUE, Integer.MAX_VALUE}) {
            Check.due("part(0, 2, " + t + ", 1)", x.part(0, 2, t, 1), -1);
        }
        for (int which : new int[] {-1, 3, Integer.MIN_VALUE, Integer.MAX_VALUE}) {
            Check.due("part(0, " + which + ", 1, 1)", x.part(0, which, 1, 1), -1);
        }
        Check.due("the slot stays", x.group(1, 0), 2);
    }

    /** "NONE if it lacks, there is no such slot". */
    private static void partsThatLack() {
        SymmetryHouse x = symbols("P 4", "P 2y");
        for (int slot : NO_SLOTS) {
            for (int which = 0; which < 3; which++) {
                Check.due("part(" + slot + ", " + which + ", 1, 0)", x.part(slot, which, 1, 0), -1);
            }
        }
        for (int slot : new int[] {-1, 6, Integer.MIN_VALUE, Integer.MAX_VALUE}) {
            Check.due("part(0, 0, 1, " + slot + ")", x.part(0, 0, 1, slot), -1);
        }
        Check.due("nothing was done", x.group(0, 0), 4);
    }
}
