/** The edges of PART 4 and of promises 21 to 24. The document's words stand above each test. */
public final class PointEdgesTest {
    public static void main(String[] args) {
        partsOfAPoint();
        numbersOfAPoint();
        takenRound();
        lastPart();
        eachOnce();
        orderOfPlaces();
        orbitsThatLack();
        aheadOfAny();
        latestStays();
        noSuchPlace();
        stabiliserRound();
        classesOfSites();
        free();
        ownPlace();
        partsToOne();
        noSuchSite();
        stayingOnes();
        noSuchStaying();
        largestOrbit();
        Check.end();
    }

    private static SymmetryHouse group(String text) {
        SymmetryHouse x = new SymmetryHouse();
        int answer = text.indexOf(',') >= 0 ? Check.triples(x, 0, text) : Check.symbol(x, 0, text);
        Check.due("read of <" + text + "> is above 0", answer > 0, true);
        return x;
    }

    private static SymmetryHouse orbit(String text, int a, int b, int c, int d, int places) {
        SymmetryHouse x = group(text);
        Check.due("orbit of " + text + " at " + a + " " + b + " " + c + " by " + d, x.orbit(0, a, b, c, d), places);
        return x;
    }

    private static String place(SymmetryHouse x, int i) {
        return x.place(i, 0) + " " + x.place(i, 1) + " " + x.place(i, 2);
    }

    private static void places(SymmetryHouse x, String... want) {
        for (int i = 0; i < want.length; i++) {
            Check.due("place " + i, place(x, i), want[i]);
        }
        Check.due("no more", place(x, want.length), "-1 -1 -1");
    }

    /** "(d 1 .. 1000 ..)". */
    private static void partsOfAPoint() {
        for (int d : new int[] {1, 2, 24, 999, 1000}) {
            orbit("P 2", 0, 0, 0, d, 1);
        }
        for (int d : new int[] {0, -1, -1000, 1001, Integer.MIN_VALUE, Integer.MAX_VALUE}) {
            orbit("P 2", 0, 0, 0, d, -1);
        }
    }

    /** "(.. a, b, c -10000 .. 10000)". */
    private static void numbersOfAPoint() {
        for (int v : new int[] {-10000, 10000}) {
            orbit("P 2", v, 0, 0, 1, 1);
            orbit("P 2", 0, v, 0, 1, 1);
            orbit("P 2", 0, 0, v, 1, 1);
        }
        for (int v : new int[] {-10001, 10001, Integer.MIN_VALUE, Integer.MAX_VALUE}) {
            orbit("P 2", v, 0, 0, 1, -1);
            orbit("P 2", 0, v, 0, 1, -1);
            orbit("P 2", 0, 0, v, 1, -1);
        }
    }

    /** "Told in parts of 24 d, taken round into 0 .. 24 d - 1". */
    private static void takenRound() {
        places(orbit("P 1", 1, 2, 3, 10, 1), "24 48 72");
        places(orbit("P 1", 10, 11, -1, 10, 1), "0 24 216");
        places(orbit("P 1", -10, -11, 9, 10, 1), "0 216 216");
        places(orbit("P 1", 7, -7, 10000, 1, 1), "0 0 0");
        places(orbit("P 1", 10000, -10000, 9999, 1000, 1), "0 0 23976");
        places(orbit("P 1", -9999, -1, 1, 1000, 1), "24 23976 24");
        places(orbit("P 1", 10000, -10000, 9999, 7, 1), "96 72 72");
        places(orbit("-P 1", 1, 0, 1, 1000, 2), "24 0 24", "23976 0 23976");
    }

    /** 24 d - 1 is the last part: translations go by twenty-fourths of it, d parts each. */
    private static void lastPart() {
        SymmetryHouse x = orbit("x+1/24,y,z", 0, 0, 0, 1, 24);
        for (int i = 0; i < 24; i++) {
            Check.due("place " + i, place(x, i), i + " 0 0");
        }
        x = orbit("x,y+1/24,z", 0, -1, 0, 1000, 24);
        Check.due("the first place", place(x, 0), "0 976 0");
        Check.due("the last place", place(x, 23), "0 23976 0");
        places(orbit("x,y,z+1/2", 1, 1, 999, 1000, 2), "24 24 11976", "24 24 23976");
        places(orbit("-x+23/24,-y,-z", 0, 0, 0, 1, 2), "0 0 0", "23 0 0");
    }

    /** "All places to which the group's OPERATORS move it, each once". */
    private static void eachOnce() {
        places(orbit("-P 4 2 3", 0, 0, 0, 1, 1), "0 0 0");
        places(orbit("-P 4 2 3", 1, 1, 1, 2, 1), "24 24 24");
        places(orbit("-P 4 2 3", 1, 0, 0, 2, 3), "0 0 24", "0 24 0", "24 0 0");
        places(orbit("I 2", 0, 0, 0, 1, 2), "0 0 0", "12 12 12");
        orbit("-F 4 2 3", 0, 0, 0, 1, 4);
        orbit("-F 4 2 3", 1, 1, 1, 4, 8);
        orbit("-F 4 2 3", 1, 2, 3, 7, 192);
    }

    /** "By their first numbers, then the second, then the third ones". */
    private static void orderOfPlaces() {
        places(orbit("x,y,z+1/2;x,y+1/2,z;x+1/2,y,z", 0, 0, 0, 1, 8), "0 0 0", "0 0 12", "0 12 0", "0 12 12", "12 0 0",
            "12 0 12", "12 12 0", "12 12 12");
        places(orbit("z,x,y", 1, 2, 3, 4, 3), "24 48 72", "48 72 24", "72 24 48");
        places(orbit("P 4", 1, 2, 3, 10, 4), "24 48 72", "48 216 72", "192 24 72", "216 192 72");
        places(orbit("P 31", 0, 0, 0, 1000, 3), "0 0 0", "0 0 8000", "0 0 16000");
    }

    /** "NONE .. if the slot has no group". */
    private static void orbitsThatLack() {
        SymmetryHouse x = group("P 2");
        for (int slot : new int[] {-1, 1, 5, 6, Integer.MIN_VALUE, Integer.MAX_VALUE}) {
            Check.due("orbit of slot " + slot, x.orbit(slot, 0, 0, 0, 1), -1);
        }
    }

    /** "No orbit"; "NONE .. ahead of any": also behind refused ones. */
    private static void aheadOfAny() {
        SymmetryHouse x = group("P 2");
        for (int times = 0; times < 2; times++) {
            for (int what = -1; what < 6; what++) {
                Check.due("site(" + what + ")", x.site(what), -1);
            }
            for (int i = -1; i < 3; i++) {
                Check.due("stays(" + i + ")", x.stays(i), -1);
                Check.due("place(" + i + ")", place(x, i), "-1 -1 -1");
            }
            x.orbit(1, 0, 0, 0, 1);
            x.orbit(0, 0, 0, 0, 0);
            x.orbit(0, 10001, 0, 0, 1);
        }
    }

    /** "NONE, and the latest one stays". */
    private static void latestStays() {
        SymmetryHouse x = orbit("P 2", 1, 2, 3, 10, 2);
        x.orbit(0, 0, 0, 0, 1001);
        x.orbit(0, 0, -10001, 0, 1);
        x.orbit(3, 0, 0, 0, 1);
        places(x, "24 48 72", "216 192 72");
        Check.due("its parts", x.site(4), 240);
        Check.symbol(x, 0, "-P 4 2 3");
        places(x, "24 48 72", "216 192 72");
        Check.due("its stabiliser", x.site(0), 1);
        Check.due("the identity's number in the group of then", x.stays(0), 1);
        Check.due("a new one", x.orbit(0, 0, 0, 0, 1), 1);
        places(x, "0 0 0");
        Check.due("its stabiliser", x.site(0), 48);
    }

    /** "NONE if there is none such": place. */
    private static void noSuchPlace() {
        SymmetryHouse x = orbit("P 2", 1, 2, 3, 10, 2);
        for (int i : new int[] {-1, 2, 3, 191, 192, Integer.MIN_VALUE, Integer.MAX_VALUE}) {
            for (int k = 0; k < 3; k++) {
                Check.due("place(" + i + ", " + k + ")", x.place(i, k), -1);
            }
        }
        for (int k : new int[] {-1, 3, 4, Integer.MIN_VALUE, Integer.MAX_VALUE}) {
            Check.due("place(0, " + k + ")", x.place(0, k), -1);
            Check.due("place(1, " + k + ")", x.place(1, k), -1);
        }
        Check.due("place(1, 2)", x.place(1, 2), 72);
    }

    private static void site(SymmetryHouse x, String want) {
        StringBuilder got = new StringBuilder();
        for (int what = 0; what < 5; what++) {
            got.append(what > 0 ? " " : "").append(x.site(what));
        }
        Check.due("site", got.toString(), want);
    }

    /** "The OPERATORS by which it comes to its own place (round)". */
    private static void stabiliserRound() {
        site(orbit("-P", 1, 0, 0, 2, 1), "2 2 0 0 48");
        site(orbit("-P", -1, 1, 3, 2, 1), "2 2 0 0 48");
        site(orbit("-P", 1, 0, 0, 3, 2), "1 1 3 0 72");
        site(orbit("-P", 2, 0, 0, 3, 2), "1 1 3 1 72");
        site(orbit("P 21", 0, 0, 0, 1, 2), "1 1 3 0 24");
        site(orbit("x+1/24,y,-z", 0, 0, 0, 1, 24), "1 1 3 0 24");
        site(orbit("x,y,z+1/2", 0, 0, 1, 2, 2), "1 1 3 1 48");
        site(orbit("C 2", 1, 1, 0, 4, 2), "2 3 1 0 96");
        site(orbit("-x+1/24,-y,-z", 1, 0, 0, 48, 1), "2 2 0 0 1152");
    }

    /** "Its matrices are of a CLASS (that of the SITE)". */
    private static void classesOfSites() {
        Check.due("m-3m", orbit("-P 4 2 3", 0, 0, 0, 1, 1).site(1), 32);
        Check.due("4/mmm", orbit("-P 4 2 3", 1, 0, 0, 2, 3).site(1), 15);
        Check.due("4mm", orbit("-P 4 2 3", 1, 0, 0, 7, 6).site(1), 13);
        Check.due("3m", orbit("-P 4 2 3", 1, 1, 1, 7, 8).site(1), 19);
        Check.due("mm2", orbit("-P 4 2 3", 1, 1, 0, 7, 12).site(1), 7);
        Check.due("m", orbit("-P 4 2 3", 1, 1, 2, 7, 24).site(1), 4);
        Check.due("1", orbit("-P 4 2 3", 1, 2, 3, 9, 48).site(1), 1);
        Check.due("mmm", orbit("-P 4n 2 3", 0, 1, 1, 2, 6).site(1), 8);
        Check.due("-42m", orbit("-P 4n 2 3", 1, 0, 2, 4, 6).site(1), 14);
        Check.due("-6m2", orbit("-P 6c 2c", 4, 8, 3, 12, 2).site(1), 26);
        Check.due("3", orbit("P 3", 0, 0, 1, 5, 1).site(1), 16);
    }

    /** "FREE: the sum of their traces by how many they are". */
    private static void free() {
        Check.due("3 ways", orbit("P 4 -2", 1, 2, 3, 9, 8).site(2), 3);
        Check.due("2 ways", orbit("P 4 -2", 1, 1, 3, 9, 4).site(2), 2);
        Check.due("1 way", orbit("P 4 -2", 0, 0, 3, 9, 1).site(2), 1);
        Check.due("no way", orbit("-P 4 2", 0, 0, 0, 9, 1).site(2), 0);
        Check.due("no way by -4", orbit("P -4", 0, 0, 0, 1, 1).site(2), 0);
        Check.due("1 way by 2", orbit("P -4", 0, 0, 1, 3, 2).site(2), 1);
    }

    /** "3: the place that is its own". */
    private static void ownPlace() {
        Check.due("the first", orbit("P 4", 1, 2, 3, 10, 4).site(3), 0);
        Check.due("the second", orbit("P 4", 2, -1, 3, 10, 4).site(3), 1);
        Check.due("the third", orbit("P 4", -2, 1, 3, 10, 4).site(3), 2);
        Check.due("the last", orbit("P 4", -1, -2, 3, 10, 4).site(3), 3);
        Check.due("the last of all", orbit("x+1/24,y,z", 23, 0, 0, 24, 24).site(3), 23);
        Check.due("the only one", orbit("P 1", 999, 999, 999, 1000, 1).site(3), 0);
    }

    /** "4: parts to one (24 d)". */
    private static void partsToOne() {
        for (int d : new int[] {1, 2, 7, 999, 1000}) {
            Check.due("parts", orbit("P 1", 1, 2, 3, d, 1).site(4), 24 * d);
        }
    }

    /** "NONE for others": site. */
    private static void noSuchSite() {
        SymmetryHouse x = orbit("P 2", 0, 0, 0, 1, 1);
        for (int what : new int[] {-1, 5, 6, Integer.MIN_VALUE, Integer.MAX_VALUE}) {
            Check.due("site(" + what + ")", x.site(what), -1);
        }
    }

    /** "The number of the i-th OPERATOR of the STABILISER there, by numbers". */
    private static void stayingOnes() {
        staying(orbit("P 4", 0, 0, 0, 1, 1), 0, 1, 2, 3);
        staying(orbit("P 4", 0, 1, 0, 2, 2), 0, 3);
        staying(orbit("P 4", 1, 2, 3, 10, 4), 3);
        staying(orbit("I 2", 0, 0, 0, 1, 2), 0, 2);
        staying(orbit("C 2", 1, 1, 0, 4, 2), 1, 2);
        staying(orbit("P 3 2", 1, -1, 0, 5, 3), 2, 4);
    }

    private static void staying(SymmetryHouse x, int... numbers) {
        Check.due("how many", x.site(0), numbers.length);
        for (int i = 0; i < numbers.length; i++) {
            Check.due("stays(" + i + ")", x.stays(i), numbers[i]);
        }
        Check.due("no more", x.stays(numbers.length), -1);
    }

    /** "NONE if there is none such": stays. */
    private static void noSuchStaying() {
        SymmetryHouse x = orbit("P 4", 0, 1, 0, 2, 2);
        for (int i : new int[] {-1, 2, 3, 191, 192, Integer.MIN_VALUE, Integer.MAX_VALUE}) {
            Check.due("stays(" + i + ")", x.stays(i), -1);
        }
        Check.due("stays(1)", x.stays(1), 3);
    }

    private static void largestOrbit() {
        SymmetryHouse x = orbit("-F 4 2 3", 7, 11, 30, 1000, 192);
        Check.due("the first place", place(x, 0), "168 264 720");
        Check.due("the last place", place(x, 191), "23832 23736 23280");
        Check.due("one more", place(x, 192), "-1 -1 -1");
        Check.due("its stabiliser", x.site(0), 1);
    }
}
