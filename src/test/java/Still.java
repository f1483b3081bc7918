import java.util.EnumSet;
import java.util.NoSuchElementException;

/**
 * What calls change and what they leave: two new objects get the same scene, one of them the calls as well, and then
 * both tell all they have. Each part of it is told by objects of its own, as telling one may change another.
 */
final class Still {
    enum Part { OUT, FAULT, METRIC, POINTS, SLOT0, SLOT1, SLOT2, SLOT3, SLOT4, SLOT5, BASIS, TAPE }

    interface Calls {
        void on(SymmetryHouse x);
    }

    private Still() {
    }

    /** Groups in all slots but 5, a faulty read as the latest one, 40 bytes on the tape, and something of all else. */
    static void scene(SymmetryHouse x) {
        Check.symbol(x, 0, "-P 2ybc");
        Check.symbol(x, 1, "P 41");
        Check.symbol(x, 2, "P 3 2");
        Check.symbol(x, 3, "I 2");
        Check.triples(x, 4, "x+1/4,y,z");
        x.basis(1, 1);
        x.basis(9, 3);
        x.basis(10, 5);
        x.basis(11, 7);
        x.metric(2, 2, 2, 5, 0, 0, 1);
        x.orbit(0, 1, 2, 3, 10);
        x.text(0, 1);
        Check.symbol(x, 5, "P 3 21");
        Check.feed(x, "P 2 2 -1n" + " ".repeat(31));
    }

    static void none(String label, Calls calls) {
        change(label, EnumSet.noneOf(Part.class), calls);
    }

    /** Just these parts must be changed by the calls. */
    static void change(String label, EnumSet<Part> parts, Calls calls) {
        change(label, parts, x -> { }, calls);
    }

    /** The setting comes behind the scene, on both objects. */
    static void change(String label, EnumSet<Part> parts, Calls setting, Calls calls) {
        EnumSet<Part> changed = EnumSet.noneOf(Part.class);
        for (Part part : Part.values()) {
            SymmetryHouse left = new SymmetryHouse();
            SymmetryHouse used = new SymmetryHouse();
            scene(left);
            scene(used);
            setting.on(left);
            setting.on(used);
            calls.on(used);
            if (!tell(left, part).equals(tell(used, part))) {
                changed.add(part);
            }
        }
        Check.due(label + " changes", changed.toString(), parts.toString());
    }

    private static String tell(SymmetryHouse x, Part part) {
        StringBuilder s = new StringBuilder();
        switch (part) {
            case OUT: tellOut(x, s); break;
            case FAULT: tellFault(x, s); break;
            case METRIC: tellMetric(x, s); break;
            case POINTS: tellPoints(x, s); break;
            case BASIS: tellBasis(x, s); break;
            case TAPE: tellTape(x, s); break;
            default: tellSlot(x, part.ordinal() - Part.SLOT0.ordinal(), s); break;
        }
        return s.toString();
    }

    private static void tellOut(SymmetryHouse x, StringBuilder s) {
        try {
            for (int i = 0; i < 100; i++) {
                s.append((char) x.out(i));
            }
        } catch (NoSuchElementException e) {
            s.append('.');
        }
    }

    private static void tellFault(SymmetryHouse x, StringBuilder s) {
        for (int what = 0; what < 4; what++) {
            s.append(x.fault(what)).append(' ');
        }
    }

    private static void tellMetric(SymmetryHouse x, StringBuilder s) {
        for (int k = 0; k < 6; k++) {
            s.append(x.mean(k)).append(' ');
        }
    }

    private static void tellPoints(SymmetryHouse x, StringBuilder s) {
        for (int what = 0; what < 5; what++) {
            s.append(x.site(what)).append(' ');
        }
        for (int i = 0; i < 13; i++) {
            s.append(x.stays(i)).append(' ');
            for (int k = 0; k < 3; k++) {
                s.append(x.place(i, k)).append(' ');
            }
        }
    }

    private static void tellSlot(SymmetryHouse x, int slot, StringBuilder s) {
        for (int what = 0; what < 12; what++) {
            s.append(x.group(slot, what)).append(' ');
        }
        for (int i = 0; i < x.group(slot, 0); i++) {
            s.append(Check.operator(x, slot, i, 0, 11)).append(' ');
        }
    }

    private static void tellBasis(SymmetryHouse x, StringBuilder s) {
        x.read(0, 0, true);
        Check.symbol(x, 0, "P 2 2 3");
        s.append(x.turn(0, 1, false)).append(' ');
        tellSlot(x, 1, s);
    }

    private static void tellTape(SymmetryHouse x, StringBuilder s) {
        int length = Check.feed(x, " ".repeat(20));
        s.append(length).append(' ').append(x.read(0, length < 0 ? 400 : length, true)).append(' ');
        tellFault(x, s);
        tellSlot(x, 0, s);
    }
}
