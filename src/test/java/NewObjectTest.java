import java.util.NoSuchElementException;

/** Promise 1. */
public final class NewObjectTest {
    public static void main(String[] args) {
        SymmetryHouse x = new SymmetryHouse();
        Check.due("NONE", SymmetryHouse.NONE, -1);
        emptyOut(x);
        for (int slot = -1; slot < 7; slot++) {
            Check.due("text", x.text(slot, 0), -1);
            Check.due("group", x.group(slot, 0), -1);
            Check.due("operator", x.operator(slot, 0, 0), -100000);
            Check.due("product", x.product(slot, 0, 0), -1);
            Check.due("find", x.find(slot, slot, 0), -1);
            Check.due("compare", x.compare(slot, slot), -1);
            Check.due("common", x.common(slot, slot, 0), -1);
            Check.due("cosets", x.cosets(slot, slot), -1);
            Check.due("coset", x.coset(slot, slot, 0), -1);
            Check.due("normal", x.normal(slot, slot), -1);
            Check.due("part", x.part(slot, 0, 1, 0), -1);
            Check.due("turn", x.turn(slot, 0, false), -1);
            Check.due("metric", x.metric(slot, 1, 1, 1, 0, 0, 0), -1);
            Check.due("orbit", x.orbit(slot, 0, 0, 0, 1), -1);
            Check.due("reflection", x.reflection(slot, 0, 0, 0, 0), -1);
            Check.due("absent", x.absent(slot, 1), -1);
        }
        for (int k = -1; k < 6; k++) {
            Check.due("fault", x.fault(k), -1);
            Check.due("mean", x.mean(k), 0);
            Check.due("place", x.place(0, k), -1);
            Check.due("site", x.site(k), -1);
            Check.due("stays", x.stays(k), -1);
        }
        Check.due("the tape is empty", x.read(0, 1, true), -1);
        Check.due("feed", x.feed(0, 0, 0, 0, 0), 20);
        twoObjects();
        Check.end();
    }

    private static void emptyOut(SymmetryHouse x) {
        for (int i = -1; i < 2; i++) {
            boolean thrown = false;
            try {
                x.out(i);
            } catch (NoSuchElementException e) {
                thrown = true;
            }
            Check.due("out(" + i + ") throws", thrown, true);
        }
    }

    private static void twoObjects() {
        SymmetryHouse x = new SymmetryHouse();
        SymmetryHouse y = new SymmetryHouse();
        Check.symbol(x, 0, "-P 1");
        x.basis(0, -1);
        Check.due("another object", y.group(0, 0), -1);
        Check.due("another object's fault", y.fault(0), -1);
        Check.symbol(y, 0, "P 4");
        Check.due("its own", y.group(0, 0), 4);
        Check.due("and the first one's", x.group(0, 0), 2);
    }
}
