/** The edges of PART 5 and of promises 25 and 26. The document's words stand above each test. */
public final class ReflectionEdgesTest {
    public static void main(String[] args) {
        numbersOfAReflection();
        otherWhat();
        reflectionsThatLack();
        phasesRound();
        absentByTranslations();
        absentOnlyIfLedToItself();
        originIsNeverAbsent();
        centric();
        alike();
        friedel();
        matricesThatLeave();
        phaseOfTheFirst();
        noPhase();
        rowByMatrix();
        numbersOfASphere();
        spheres();
        spheresThatLack();
        Check.end();
    }

    private static SymmetryHouse group(String text) {
        SymmetryHouse x = new SymmetryHouse();
        int answer = text.indexOf(',') >= 0 ? Check.triples(x, 0, text) : Check.symbol(x, 0, text);
        Check.due("read of <" + text + "> is above 0", answer > 0, true);
        return x;
    }

    private static void reflection(String text, int h, int k, int l, int what, int want) {
        Check.due("reflection(" + text + ", " + h + ", " + k + ", " + l + ", " + what + ")",
            group(text).reflection(0, h, k, l, what), want);
    }

    /** "REFLECTIONS h k l (-1000 .. 1000 each)"; "NONE .. for other numbers". */
    private static void numbersOfAReflection() {
        for (int what = 0; what < 6; what++) {
            SymmetryHouse x = group("-P 1");
            for (int v : new int[] {-1000, 1000}) {
                boolean told = x.reflection(0, v, 0, 0, what) >= 0 && x.reflection(0, 0, v, 0, what) >= 0
                    && x.reflection(0, 0, 0, v, what) >= 0 && x.reflection(0, v, v, v, what) >= 0;
                Check.due(v + " is told, what " + what, told, true);
            }
            for (int v : new int[] {-1001, 1001, Integer.MIN_VALUE, Integer.MAX_VALUE}) {
                Check.due("h " + v + ", what " + what, x.reflection(0, v, 0, 0, what), -1);
                Check.due("k " + v + ", what " + what, x.reflection(0, 0, v, 0, what), -1);
                Check.due("l " + v + ", what " + what, x.reflection(0, 0, 0, v, what), -1);
            }
        }
    }

    private static void otherWhat() {
        SymmetryHouse x = group("-P 1");
        for (int what : new int[] {-1, 6, 7, Integer.MIN_VALUE, Integer.MAX_VALUE}) {
            Check.due("what " + what, x.reflection(0, 1, 2, 3, what), -1);
        }
        Check.due("what 5", x.reflection(0, 1, 2, 3, 5), 0);
    }

    /** "NONE if the slot has no group". */
    private static void reflectionsThatLack() {
        SymmetryHouse x = group("-P 1");
        for (int slot : new int[] {-1, 1, 5, 6, Integer.MIN_VALUE, Integer.MAX_VALUE}) {
            for (int what = 0; what < 6; what++) {
                Check.due("slot " + slot + ", what " + what, x.reflection(slot, 1, 2, 3, what), -1);
            }
        }
    }

    /** "With the PHASE h t1 + k t2 + l t3, round from 24". */
    private static void phasesRound() {
        for (int h = -1000; h <= 1000; h += h > -60 && h < 60 ? 1 : 47) {
            reflection("x+1/24,y,z", h, 0, 0, 0, Math.floorMod(h, 24) == 0 ? 0 : 1);
            reflection("-x+1/24,-y,-z", h, 0, 0, 5, Math.floorMod(h, 24));
            reflection("-x,-y+23/24,-z", 0, h, 0, 5, Math.floorMod(-h, 24));
        }
        reflection("-x+1/24,-y+5/24,-z+7/24", 1, 1, 1, 5, 13);
        reflection("-x+1/24,-y+5/24,-z+7/24", 2, 3, 1, 5, 0);
        reflection("-x+1/24,-y+5/24,-z+7/24", -1, -1, -1, 5, 11);
        reflection("-x+23/24,-y+23/24,-z+23/24", 1000, 1000, 1000, 5, 0);
        reflection("-x+23/24,-y+23/24,-z+23/24", 1000, 1000, 999, 5, 1);
        reflection("-x+23/24,-y+23/24,-z+23/24", -1000, -1000, -999, 5, 23);
    }

    /** "ABSENT: some OPERATOR leads it to itself with a PHASE that is not 0": pure translations lead all so. */
    private static void absentByTranslations() {
        for (int h = -2; h <= 2; h++) {
            for (int k = -2; k <= 2; k++) {
                for (int l = -2; l <= 2; l++) {
                    boolean odd = (h + k + l) % 2 != 0;
                    reflection("I", h, k, l, 0, odd ? 1 : 0);
                    reflection("C", h, k, l, 0, (h + k) % 2 != 0 ? 1 : 0);
                    reflection("F", h, k, l, 0, (h + k) % 2 != 0 || (k + l) % 2 != 0 ? 1 : 0);
                    reflection("R", h, k, l, 0, (-h + k + l) % 3 != 0 ? 1 : 0);
                    reflection("P", h, k, l, 0, 0);
                }
            }
        }
    }

    private static void absentOnlyIfLedToItself() {
        reflection("P 21", 0, 0, 1, 0, 1);
        reflection("P 21", 0, 0, 2, 0, 0);
        reflection("P 21", 0, 0, -999, 0, 1);
        reflection("P 21", 0, 0, 1000, 0, 0);
        reflection("P 21", 1, 0, 1, 0, 0);
        reflection("P -2yc", 1, 0, 1, 0, 1);
        reflection("P -2yc", 1, 0, 2, 0, 0);
        reflection("P -2yc", 1, 1, 1, 0, 0);
        for (int l = -12; l <= 12; l++) {
            reflection("P 41", 0, 0, l, 0, l % 4 != 0 ? 1 : 0);
            reflection("P 42", 0, 0, l, 0, l % 2 != 0 ? 1 : 0);
            reflection("P 31", 0, 0, l, 0, l % 3 != 0 ? 1 : 0);
            reflection("P 61", 0, 0, l, 0, l % 6 != 0 ? 1 : 0);
            reflection("P 4", 0, 0, l, 0, 0);
        }
        reflection("P -1n", 1, 0, 0, 0, 0);
    }

    private static void originIsNeverAbsent() {
        for (String text : new String[] {"P", "F", "P 61", "-F 4ud 2vw 3", "x+1/24,y,z"}) {
            reflection(text, 0, 0, 0, 0, 0);
            reflection(text, 0, 0, 0, 1, 1);
            reflection(text, 0, 0, 0, 2, 1);
            reflection(text, 0, 0, 0, 3, 1);
            reflection(text, 0, 0, 0, 4, group(text).group(0, 1));
            reflection(text, 0, 0, 0, 5, 0);
        }
    }

    /** "CENTRIC: some leads it to -h -k -l". */
    private static void centric() {
        reflection("P", 1, 0, 0, 1, 0);
        reflection("-P", 1, 2, 3, 1, 1);
        reflection("P 2", 1, 2, 0, 1, 1);
        reflection("P 2", 1, 2, 1, 1, 0);
        reflection("P 2", 0, 0, 1, 1, 0);
        reflection("P -2", 0, 0, 1, 1, 1);
        reflection("P -2", 1, 0, 1, 1, 0);
        reflection("P 3", 1, -1, 0, 1, 0);
        reflection("P -4", 1, 2, 0, 1, 1);
        reflection("P -4", 0, 0, 1, 1, 1);
        reflection("I 2", 1, 0, 0, 1, 1);
    }

    /** "ALIKE are those to which it is led": each once. */
    private static void alike() {
        reflection("P", 1, 2, 3, 2, 1);
        reflection("F", 1, 2, 3, 2, 1);
        reflection("-P", 1, 2, 3, 2, 2);
        reflection("-P 4 2 3", 1, 2, 3, 2, 48);
        reflection("-F 4 2 3", 1000, 999, -998, 2, 48);
        reflection("-P 4 2 3", 1, 1, 0, 2, 12);
        reflection("P 4", 0, 0, 1, 2, 1);
        reflection("P 4", 1, 0, 0, 2, 4);
        reflection("P 3 2", 1, 0, 0, 2, 3);
        reflection("P 3 2", 1, 2, 0, 2, 6);
        reflection("P 3 2", 0, 0, 1, 2, 2);
    }

    /** "(with FRIEDEL: and these with all numbers turned round)". */
    private static void friedel() {
        reflection("P", 1, 2, 3, 3, 2);
        reflection("-P", 1, 2, 3, 3, 2);
        reflection("P 2", 1, 2, 0, 3, 2);
        reflection("P 2", 1, 2, 1, 3, 4);
        reflection("P 4", 0, 0, 1, 3, 2);
        reflection("P 4", 1, 0, 0, 3, 4);
        reflection("P 4 2 3", 1, 2, 3, 3, 48);
        reflection("P 4 2 3", 1, 1, 2, 3, 24);
        reflection("P -4 2 3", 1, 1, 1, 3, 8);
    }

    /** "4: how many matrices lead it to itself": matrices, not OPERATORS. */
    private static void matricesThatLeave() {
        reflection("P", 1, 2, 3, 4, 1);
        reflection("F", 1, 2, 3, 4, 1);
        reflection("x+1/24,y,z", 24, 0, 0, 4, 1);
        reflection("I 2", 0, 0, 2, 4, 2);
        reflection("-F 4 2 3", 0, 0, 2, 4, 8);
        reflection("-F 4 2 3", 2, 2, 2, 4, 6);
    }

    /** "5: the PHASE of the first OPERATOR that leads it to -h -k -l". */
    private static void phaseOfTheFirst() {
        reflection("P -1u", 1, 0, 0, 5, 6);
        reflection("P -1u", -1, 0, 0, 5, 18);
        reflection("P -1u", 4, 0, 0, 5, 0);
        reflection("P 2 (1 0 0)", 1, 0, 0, 5, 4);
        reflection("I -1u", 1, 1, 0, 5, 6);
        reflection("F 2 2 3 -1d", 2, 2, 0, 5, 0);
        reflection("F 2 2 3 -1d", 1, 1, 1, 5, 18);
    }

    /** "If it is not ABSENT (NONE without one)". */
    private static void noPhase() {
        reflection("P", 1, 0, 0, 5, -1);
        reflection("P 2", 1, 0, 1, 5, -1);
        reflection("I -1u", 1, 0, 0, 5, -1);
        reflection("I -1u", 1, 0, 0, 1, 1);
        reflection("P 21 2", 0, 0, 1, 5, -1);
        reflection("P 21 2", 0, 0, 1, 1, 1);
    }

    /** "To h k l times R (a row by a matrix)": not the matrix by a column. */
    private static void rowByMatrix() {
        // h k l goes to k -h-k l by -y,x-y,z
        reflection("-y,x-y,z;-y,-x,-z", 1, 1, 0, 1, 1);
        reflection("-y,x-y,z;-y,-x,-z", 1, -1, 0, 1, 0);
        reflection("-x+y,y,-z", 1, 0, 0, 4, 1);
        reflection("-x+y,y,-z", 0, 1, 0, 4, 2);
        reflection("x,x-y,-z", 1, 0, 0, 4, 2);
        reflection("x,x-y,-z", 2, 1, 0, 4, 1);
        reflection("x+1/2,x-y,-z", 1, 0, 0, 0, 1);
        reflection("x+1/2,x-y,-z", 0, 2, 0, 0, 0);
    }

    /** "(n 0 .. 6)". */
    private static void numbersOfASphere() {
        SymmetryHouse x = group("I 1");
        for (int n : new int[] {-1, 7, 8, Integer.MIN_VALUE, Integer.MAX_VALUE}) {
            Check.due("absent(0, " + n + ")", x.absent(0, n), -1);
        }
        int[] counts = {0, 14, 62, 172, 364, 666, 1098};
        for (int n = 0; n <= 6; n++) {
            Check.due("absent(0, " + n + ")", x.absent(0, n), counts[n]);
        }
    }

    /** "How many of all REFLECTIONS with h, k, l from -n to n are ABSENT". */
    private static void spheres() {
        String[] texts = {"P 1", "F 1", "C 1", "R 1", "P 21", "P 41", "P 61", "P -2yc", "x+1/24,y,z"};
        int[] counts = {0, 1638, 1092, 1464, 6, 10, 10, 78, 2028};
        for (int i = 0; i < texts.length; i++) {
            Check.due("absent ones of " + texts[i], group(texts[i]).absent(0, 6), counts[i]);
        }
        Check.due("R to 2", group("R 1").absent(0, 2), 84);
        Check.due("3 1 to 2", group("P 31").absent(0, 2), 4);
        Check.due("4 1 to 3", group("P 41").absent(0, 3), 6);
        Check.due("4 1 along x to 3", group("P 4x1").absent(0, 3), 6);
        Check.due("4 1 along y to 5", group("P 4y1").absent(0, 5), 8);
        Check.due("6 1 to 4", group("P 61").absent(0, 4), 8);
        Check.due("1/24 to 5", group("x,y,z+1/24").absent(0, 5), 1210);
        Check.due("1/24 of each to 1", group("x+1/24,y+1/24,z+1/24").absent(0, 1), 20);
    }

    /** "NONE if the slot has no group". */
    private static void spheresThatLack() {
        SymmetryHouse x = group("I 1");
        for (int slot : new int[] {-1, 1, 5, 6, Integer.MIN_VALUE, Integer.MAX_VALUE}) {
            Check.due("absent(" + slot + ", 3)", x.absent(slot, 3), -1);
        }
    }
}
