import java.io.File;
import java.io.IOException;
import java.lang.reflect.Method;
import java.lang.reflect.Modifier;
import java.nio.file.Files;
import java.nio.file.Path;

/** README.md as it stands: every call, every test, and the example's answers. */
public final class ReadmeTest {
    public static void main(String[] args) throws IOException {
        String page = Files.readString(Path.of("README.md"));
        for (Method m : SymmetryHouse.class.getDeclaredMethods()) {
            if (Modifier.isPublic(m.getModifiers())) {
                Check.due("README.md tells of " + m.getName(), page.contains("`" + m.getName() + "`"), true);
            }
        }
        String[] files = new File("src/test/java").list();
        Check.due("there are tests", files != null && files.length > 0, true);
        for (int i = 0; files != null && i < files.length; i++) {
            String name = files[i].replace(".java", "");
            Check.due("README.md tells of " + name, page.contains("`" + name + "`"), true);
        }
        example();
        Check.end();
    }

    private static void example() {
        SymmetryHouse x = new SymmetryHouse();
        x.feed(0x2d502032, 0x79626320, 0x20202020, 0x20202020, 0x20202020);
        Check.due("read(0, 7, true)", x.read(0, 7, true), 4);
        Check.due("group(0, 3)", x.group(0, 3), 5);
        Check.due("text(0, 1)", x.text(0, 1), 15);
        Check.due("out", Check.out(x, 15), "-x,y+1/2,-z+1/2");
        Check.due("orbit(0, 1, 2, 3, 10)", x.orbit(0, 1, 2, 3, 10), 4);
        Check.due("place(0, 2)", x.place(0, 2), 72);
        Check.due("site(4)", x.site(4), 240);
        Check.due("reflection(0, 0, 1, 0, 0)", x.reflection(0, 0, 1, 0, 0), 1);
    }
}
