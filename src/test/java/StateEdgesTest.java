import java.util.EnumSet;
import java.util.NoSuchElementException;

/** What each call changes, what a refused one leaves as it was, and the slots that are not there. */
public final class StateEdgesTest {
    private static final int[] NO_SLOTS = {-1, 6, 7, Integer.MIN_VALUE, Integer.MAX_VALUE};

    public static void main(String[] args) {
        askingCallsChangeNothing();
        textChangesOutAlone();
        feedChangesTheTapeAlone();
        readChangesItsSlot();
        groupMakersChangeTheirSlotAlone();
        basisChangesTheBasisAlone();
        metricAndOrbitChangeTheirOwn();
        refusedTexts();
        refusedGroups();
        refusedBasesAndTurns();
        refusedMetricsAndOrbits();
        slotsThatAreNotThere();
        lackingSlots();
        readsAreApart();
        othersAreApart();
        slotsUsedAgain();
        fullSlots();
        lastOfItsCalls();
        Check.end();
    }

    private static void askingCallsChangeNothing() {
        Still.none("fault", x -> x.fault(0));
        Still.none("out", x -> x.out(0));
        Still.none("out beyond", x -> Check.due("out throws", throwsAt(x, 15), true));
        Still.none("group", x -> {
            for (int what = -1; what < 13; what++) {
                x.group(0, what);
            }
        });
        Still.none("operator", x -> Check.operator(x, 1, 1, -1, 24));
        Still.none("product", x -> x.product(2, 1, 3));
        Still.none("find", x -> x.find(0, 1, 3));
        Still.none("compare", x -> x.compare(0, 1));
        Still.none("cosets", x -> x.cosets(2, 2));
        Still.none("coset", x -> x.coset(2, 2, 1));
        Still.none("normal", x -> x.normal(2, 2));
        Still.none("mean", x -> x.mean(3));
        Still.none("place", x -> x.place(0, 0));
        Still.none("site", x -> x.site(3));
        Still.none("stays", x -> x.stays(0));
        Still.none("reflection", x -> x.reflection(0, 0, 1, 0, 0));
        Still.none("absent", x -> x.absent(0, 3));
    }

    private static void textChangesOutAlone() {
        Still.change("text", EnumSet.of(Still.Part.OUT), x -> x.text(2, 0));
    }

    private static void feedChangesTheTapeAlone() {
        Still.change("feed", EnumSet.of(Still.Part.TAPE), x -> Check.feed(x, " ".repeat(20)));
    }

    private static void readChangesItsSlot() {
        Still.change("read", EnumSet.of(Still.Part.FAULT, Still.Part.SLOT5, Still.Part.TAPE),
            x -> Check.due("read", x.read(5, 9, true), 8));
        Still.change("read of the orbit's slot", EnumSet.of(Still.Part.FAULT, Still.Part.SLOT0, Still.Part.TAPE),
            x -> Check.due("read", x.read(0, 9, true), 8));
    }

    private static void groupMakersChangeTheirSlotAlone() {
        EnumSet<Still.Part> fifth = EnumSet.of(Still.Part.SLOT5);
        Still.change("common", fifth, x -> Check.due("common", x.common(0, 1, 5), 1));
        Still.change("part", fifth, x -> Check.due("part", x.part(2, 2, 3, 5), 3));
        Still.change("turn", fifth, x -> Check.due("turn", x.turn(2, 5, false), 6));
        Still.change("turn back", fifth, x -> Check.due("turn", x.turn(2, 5, true), 6));
        Still.change("turn of the orbit's slot", EnumSet.of(Still.Part.SLOT0), x -> x.turn(0, 0, false));
        Still.change("part to the metric's slot", EnumSet.of(Still.Part.SLOT2), x -> x.part(2, 1, 1, 2));
    }

    private static void basisChangesTheBasisAlone() {
        for (int k = 0; k < 12; k++) {
            int number = k;
            Still.change("basis(" + k + ", 2)", EnumSet.of(Still.Part.BASIS), x -> x.basis(number, 2));
        }
    }

    private static void metricAndOrbitChangeTheirOwn() {
        Still.change("metric", EnumSet.of(Still.Part.METRIC), x -> x.metric(0, 1, 2, 3, 4, 5, 6));
        Still.change("orbit", EnumSet.of(Still.Part.POINTS), x -> x.orbit(1, 0, 0, 0, 7));
    }

    /** "NONE, and none comes"; "NONE, doing nothing"; "Else the slot stays"; "NONE (OUT stays)". */
    private static void refusedTexts() {
        Still.change("feed beyond 400", EnumSet.noneOf(Still.Part.class), x -> Check.feed(x, " ".repeat(360)), x -> {
            Check.due("feed", x.feed(0x24242424, 1, 2, 3, 4), -1);
            Check.due("read", x.read(0, 401, false), -1);
        });
        Still.none("read below 0", x -> Check.due("read", x.read(0, -1, true), -1));
        Still.none("read of the least", x -> Check.due("read", x.read(0, Integer.MIN_VALUE, true), -1));
        Still.none("read of one more", x -> Check.due("read", x.read(0, 41, true), -1));
        Still.none("read of the most", x -> Check.due("read", x.read(0, Integer.MAX_VALUE, false), -1));
        Still.none("read to no slot", x -> {
            for (int slot : NO_SLOTS) {
                Check.due("read", x.read(slot, 9, true), -1);
            }
        });
        EnumSet<Still.Part> told = EnumSet.of(Still.Part.FAULT, Still.Part.TAPE);
        Still.change("a read with a FAULT", told, x -> Check.due("read", x.read(0, 40, false), -2));
        Still.change("an INFINITE one", told, x -> Check.due("read", again(x, "x,x+y,z"), -3));
        Still.change("a FULL one", told, x -> Check.due("read", again(x, "x+1/24,y,z;x,y+1/24,z"), -4));
        Still.none("text of none such", x -> {
            for (int i : new int[] {-1, 4, Integer.MIN_VALUE, Integer.MAX_VALUE}) {
                Check.due("text", x.text(0, i), -1);
            }
            Check.due("text", x.text(5, 0), -1);
        });
    }

    private static int again(SymmetryHouse x, String triples) {
        x.read(0, 0, true);
        return Check.triples(x, 0, triples);
    }

    /** common() and part(): NONE, or "0, and the slot stays". */
    private static void refusedGroups() {
        Still.none("common", x -> {
            Check.due("the first lacks", x.common(5, 0, 1), -1);
            Check.due("the second lacks", x.common(0, 5, 1), -1);
            Check.due("no slot", x.common(0, 1, 6), -1);
        });
        Still.none("part", x -> {
            Check.due("it lacks", x.part(5, 0, 1, 0), -1);
            Check.due("no slot", x.part(2, 0, 1, 6), -1);
            Check.due("no TYPE", x.part(2, 2, 5, 0), -1);
            Check.due("no group", x.part(2, 2, 2, 0), 0);
            Check.due("no group, to its own slot", x.part(2, 2, 2, 2), 0);
            Check.due("no group, to a slot without one", x.part(2, 2, 2, 5), 0);
        });
    }

    /** "false, and nothing is changed"; "-2, and nothing is done". */
    private static void refusedBasesAndTurns() {
        Still.none("basis", x -> {
            for (int k = 0; k < 12; k++) {
                Check.due("basis(" + k + ", 24)", x.basis(k, 24), false);
                Check.due("basis(" + k + ", -10)", x.basis(k, -10), false);
            }
            Check.due("basis(-1, 2)", x.basis(-1, 2), false);
            Check.due("basis(12, 2)", x.basis(12, 2), false);
        });
        Still.none("turn", x -> {
            Check.due("it lacks", x.turn(5, 0, false), -1);
            Check.due("no slot", x.turn(2, 6, true), -1);
        });
        Still.change("turn by a determinant of 2", EnumSet.noneOf(Still.Part.class), x -> x.basis(0, 2), x -> {
            Check.due("turn", x.turn(2, 0, false), -2);
            Check.due("turn back", x.turn(2, 0, true), -2);
            Check.due("turn to a slot without one", x.turn(2, 5, true), -2);
        });
        Still.change("turn beyond 999", EnumSet.noneOf(Still.Part.class), StateEdgesTest::steepBasis, x -> {
            Check.due("turn", x.turn(2, 0, false), -3);
            Check.due("turn to its own slot", x.turn(2, 2, false), -3);
            Check.due("turn to a slot without one", x.turn(2, 5, false), -3);
        });
    }

    private static void steepBasis(SymmetryHouse x) {
        int[] p = {4, 7, -9, 5, 8, 4, -2, -3, -6};
        for (int k = 0; k < 9; k++) {
            x.basis(k, p[k]);
        }
    }

    /** "The latest metric() that was not NONE"; "NONE, and the latest one stays". */
    private static void refusedMetricsAndOrbits() {
        Still.none("metric", x -> {
            Check.due("it lacks", x.metric(5, 1, 2, 3, 4, 5, 6), -1);
            Check.due("the first number", x.metric(0, 1001, 2, 3, 4, 5, 6), -1);
            Check.due("the last number", x.metric(0, 1, 2, 3, 4, 5, -1001), -1);
        });
        Still.none("orbit", x -> {
            Check.due("it lacks", x.orbit(5, 1, 1, 1, 7), -1);
            Check.due("a", x.orbit(1, 10001, 1, 1, 7), -1);
            Check.due("c", x.orbit(1, 1, 1, -10001, 7), -1);
            Check.due("d", x.orbit(1, 1, 1, 1, 1001), -1);
            Check.due("d", x.orbit(1, 1, 1, 1, 0), -1);
        });
    }

    /** "GROUPS are in SLOTS 0 .. 5". */
    private static void slotsThatAreNotThere() {
        for (int slot : NO_SLOTS) {
            Still.none("calls to slot " + slot, x -> askAll(x, slot));
        }
    }

    /** "A slot lacks one at first". */
    private static void lackingSlots() {
        Still.none("calls to a slot without a group", x -> askAll(x, 5));
    }

    private static void askAll(SymmetryHouse x, int slot) {
        String at = " of slot " + slot;
        Check.due("text" + at, x.text(slot, 0), -1);
        Check.due("group" + at, x.group(slot, 0), -1);
        Check.due("operator" + at, x.operator(slot, 0, 0), -100000);
        Check.due("product" + at, x.product(slot, 0, 0), -1);
        Check.due("find" + at, x.find(slot, 0, 3), -1);
        Check.due("find in another" + at, x.find(0, slot, 0), -1);
        Check.due("compare" + at, x.compare(slot, 0), -1);
        Check.due("compare with one" + at, x.compare(0, slot), -1);
        Check.due("common" + at, x.common(slot, 0, 1), -1);
        Check.due("common with one" + at, x.common(0, slot, 1), -1);
        Check.due("cosets" + at, x.cosets(slot, 0), -1);
        Check.due("cosets by one" + at, x.cosets(0, slot), -1);
        Check.due("coset" + at, x.coset(slot, 0, 0), -1);
        Check.due("coset by one" + at, x.coset(0, slot, 0), -1);
        Check.due("normal" + at, x.normal(slot, 0), -1);
        Check.due("normal by one" + at, x.normal(0, slot), -1);
        Check.due("part" + at, x.part(slot, 0, 1, 0), -1);
        Check.due("turn" + at, x.turn(slot, 0, false), -1);
        Check.due("metric" + at, x.metric(slot, 1, 1, 1, 0, 0, 0), -1);
        Check.due("orbit" + at, x.orbit(slot, 0, 0, 0, 1), -1);
        Check.due("reflection" + at, x.reflection(slot, 0, 0, 0, 0), -1);
        Check.due("absent" + at, x.absent(slot, 0), -1);
        if (slot != 5) {
            Check.due("common to it" + at, x.common(0, 0, slot), -1);
            Check.due("part to it" + at, x.part(0, 0, 1, slot), -1);
            Check.due("turn to it" + at, x.turn(0, slot, false), -1);
        }
    }

    /** A text that is read means the same behind any other one. */
    private static void readsAreApart() {
        String[] texts = {"P 2x (1 2 3)", "P 2'", "P 3 2", "-F 1 1 1 1", "P 2 2", "P 4y 3'", "P 41 2 (0 0 1", "P 6x 21",
            "P 4 6", "-F 4u 2 3", "P 1 1 3", "x,y,z", "-x+1/2,y,z-1/3", "x+y+1/2,-y$", "x,y,z;x+1/5", "x,x,z",
            "x,y,z;".repeat(12) + "x", "x,x+y,z", "x+1/24,y,z;x,y+1/24,z", "-y,x,z;z,x,y", "", "1/2-x,-y,-z"};
        for (String ahead : texts) {
            for (String text : texts) {
                SymmetryHouse alone = new SymmetryHouse();
                SymmetryHouse behind = new SymmetryHouse();
                readAny(behind, 1, ahead);
                Check.due("<" + text + "> behind <" + ahead + ">", readAny(behind, 0, text), readAny(alone, 0, text));
            }
        }
    }

    private static String readAny(SymmetryHouse x, int slot, String text) {
        boolean triples = text.indexOf(',') >= 0;
        StringBuilder s = new StringBuilder();
        s.append(triples ? Check.triples(x, slot, text) : Check.symbol(x, slot, text));
        for (int what = 0; what < 4; what++) {
            s.append(' ').append(x.fault(what));
        }
        for (int i = 0; i < x.group(slot, 0) && i < 24; i++) {
            s.append(' ').append(Check.operator(x, slot, i, 0, 11));
        }
        return s.toString();
    }

    /** What a call answers does not hang on what it was asked ahead. */
    private static void othersAreApart() {
        SymmetryHouse x = new SymmetryHouse();
        Check.symbol(x, 0, "-P 4 2 3");
        Check.due("product", x.product(0, 1, 1), 47);
        Check.due("normal", x.normal(0, 0), 1);
        Check.symbol(x, 0, "P 3 2");
        Check.due("product in the next group", x.product(0, 3, 1), 2);
        Check.due("inverse in it", x.operator(0, 0, 22), 3);
        x.turn(0, 0, false);
        Check.due("product in the same one", x.product(0, 3, 1), 2);
        x.part(0, 2, 3, 0);
        Check.due("product in its part", x.product(0, 0, 0), 1);
        Check.symbol(x, 0, "P 4");
        Check.due("a large orbit", x.orbit(0, 1, 2, 3, 10), 4);
        Check.due("a small one", x.orbit(0, 0, 0, 0, 1), 1);
        Check.due("its stabiliser", x.site(0), 4);
        Check.due("a large one again", x.orbit(0, 1, 2, 3, 10), 4);
        Check.due("its stabiliser", x.site(0), 1);
        Check.due("a metric", x.metric(0, 1, 2, 3, 4, 5, 6), 0);
        Check.due("another one", x.metric(0, 2, 2, 5, 0, 0, 0), 1);
        Check.due("its sum", x.mean(2), 20);
        Check.due("its last sum", x.mean(5), 0);
    }

    /** Of a larger group that a slot had, nothing is left behind a smaller one's end. */
    private static void slotsUsedAgain() {
        String[] larger = {"-F 4 2 3", "-P 6 2", "-R 3"};
        String[][] pairs = {{"P", "P"}, {"P 2 2", "P 2"}, {"P 3 2", "P 3"}, {"I 4", "P 4"}, {"-P", "P"}, {"P -4", "P 2"}};
        for (String ahead : larger) {
            for (String[] pair : pairs) {
                SymmetryHouse alone = new SymmetryHouse();
                SymmetryHouse behind = new SymmetryHouse();
                for (int slot = 0; slot < 4; slot++) {
                    Check.symbol(behind, slot, ahead);
                    behind.group(slot, 9);
                }
                behind.orbit(0, 1, 2, 3, 9);
                behind.text(0, 0);
                Check.due(pair[0] + " and " + pair[1] + " behind " + ahead, tellPair(behind, pair), tellPair(alone, pair));
            }
        }
    }

    private static String tellPair(SymmetryHouse x, String[] pair) {
        StringBuilder s = new StringBuilder();
        for (int slot = 0; slot < 2; slot++) {
            s.append(Check.symbol(x, slot, pair[slot])).append(':');
            for (int what = 0; what < 12; what++) {
                s.append(x.group(slot, what)).append(' ');
            }
        }
        int order = x.group(0, 0);
        for (int i = 0; i <= order; i++) {
            s.append(x.coset(0, 1, i)).append(' ').append(x.find(1, 0, i)).append(' ').append(x.find(0, 1, i)).append(' ');
            for (int j = 0; j <= order; j++) {
                s.append(x.product(0, i, j)).append(' ');
            }
            s.append(x.operator(0, i, 22)).append(' ').append(x.operator(0, i, 23)).append(' ');
        }
        s.append(x.compare(0, 1)).append(' ').append(x.cosets(0, 1)).append(' ').append(x.normal(0, 1)).append(' ');
        s.append(x.common(0, 1, 2)).append(' ').append(x.compare(2, 1)).append(' ').append(x.group(2, 9)).append(' ');
        s.append(x.part(0, 0, 1, 3)).append(' ').append(x.compare(3, 0)).append(' ').append(x.group(3, 10)).append(' ');
        for (int what = 0; what < 6; what++) {
            s.append(x.reflection(0, 1, 1, 1, what)).append(' ').append(x.reflection(0, 0, 0, 1, what)).append(' ');
        }
        s.append(x.orbit(0, 1, 2, 3, 9)).append(' ').append(x.site(0)).append(' ').append(x.place(order, 0)).append(' ');
        s.append(x.metric(0, 1, 2, 3, 4, 5, 6)).append(' ').append(x.mean(0)).append(' ').append(x.absent(0, 2));
        return s.toString();
    }

    /** A group of as many OPERATORS as there may be: the last of them, too. */
    private static void fullSlots() {
        SymmetryHouse x = new SymmetryHouse();
        Check.due("192", Check.symbol(x, 0, "-F 4 2 3"), 192);
        Check.due("F", Check.symbol(x, 1, "F"), 4);
        Check.due("cosets", x.cosets(0, 1), 48);
        Check.due("the last coset", x.coset(0, 1, 191), 47);
        Check.due("no coset more", x.coset(0, 1, 192), -1);
        Check.due("normal", x.normal(0, 1), 1);
        Check.due("product of the last", x.product(0, 191, 191), 188);
        Check.due("the last's inverse", x.operator(0, 191, 22), 191);
        Check.due("the last is exchanged with", x.operator(0, 191, 23), 64);
        Check.due("sets", x.cosets(0, 0), 1);
        Check.due("normal in itself", x.normal(0, 0), 1);
        Check.due("common", x.common(0, 0, 2), 192);
        Check.due("part", x.part(0, 2, -1, 3), 8);
        Check.due("compare", x.compare(0, 2), 3);
        Check.due("text of the last", Check.out(x, x.text(0, 191)), "x+1/2,y+1/2,z");
        Check.triples(x, 0, "x+1/24,y,z;x,y+1/8,z");
        Check.due("192 translations", x.group(0, 2), 192);
        Check.due("the last coset by one", x.coset(0, 0, 191), 0);
        Check.due("the last place", x.orbit(0, 0, 0, 0, 1), 192);
        Check.due("the last place's number", x.place(191, 0), 23);
    }

    /** "An object is used for at most 512 calls after it has been made". */
    private static void lastOfItsCalls() {
        SymmetryHouse x = new SymmetryHouse();
        for (int i = 0; i < 255; i++) {
            x.feed(0x2d502032, 0x20322020, 0x20202020, 0x20202020, 0x20202020);
            x.read(i % 6, 6, true);
        }
        Check.due("call 511", x.orbit(2, 1, 2, 3, 10), 8);
        Check.due("call 512", x.place(7, 2), 168);
    }

    private static boolean throwsAt(SymmetryHouse x, int i) {
        try {
            x.out(i);
        } catch (NoSuchElementException e) {
            return true;
        }
        return false;
    }
}
