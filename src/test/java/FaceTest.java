import java.lang.reflect.Constructor;
import java.lang.reflect.Field;
import java.lang.reflect.Method;
import java.lang.reflect.Modifier;
import java.util.Arrays;
import java.util.Set;
import java.util.TreeSet;

/** The public face and nothing beside it (LANGUAGE.md, rules 1, 5 and 11). */
public final class FaceTest {
    private static final String[] FACE = {
        "int feed(int,int,int,int,int)", "int read(int,int,boolean)", "int fault(int)", "int text(int,int)",
        "int out(int)", "int group(int,int)", "int operator(int,int,int)", "int product(int,int,int)",
        "int find(int,int,int)", "int compare(int,int)", "int common(int,int,int)", "int cosets(int,int)",
        "int coset(int,int,int)", "int normal(int,int)", "int part(int,int,int,int)", "boolean basis(int,int)",
        "int turn(int,int,boolean)", "int metric(int,int,int,int,int,int,int)", "long mean(int)",
        "int orbit(int,int,int,int,int)", "int place(int,int)", "int site(int)", "int stays(int)",
        "int reflection(int,int,int,int,int)", "int absent(int,int)"};

    public static void main(String[] args) {
        Class<?> face = SymmetryHouse.class;
        Check.due("public and final", Modifier.isPublic(face.getModifiers()) && Modifier.isFinal(face.getModifiers()), true);
        Set<String> names = new TreeSet<>();
        Set<String> told = new TreeSet<>();
        for (Method m : face.getDeclaredMethods()) {
            if (Modifier.isPublic(m.getModifiers())) {
                StringBuilder line = new StringBuilder(m.getReturnType().getName()).append(" ").append(m.getName());
                String types = String.join(",", Arrays.stream(m.getParameterTypes()).map(Class::getName).toList());
                told.add(line.append("(").append(types).append(")").toString());
                names.add(m.getName());
            }
        }
        Check.due("the methods", told.toString(), new TreeSet<>(Arrays.asList(FACE)).toString());
        for (Method m : face.getDeclaredMethods()) {
            boolean hidden = Modifier.isPrivate(m.getModifiers()) && !names.contains(m.getName());
            Check.due(m + " is private", Modifier.isPublic(m.getModifiers()) || hidden || m.isSynthetic(), true);
        }
        for (Field f : face.getDeclaredFields()) {
            boolean constant = f.getName().equals("NONE");
            Check.due(f + " is private", Modifier.isPublic(f.getModifiers()) == constant
                && (constant || Modifier.isPrivate(f.getModifiers())), true);
        }
        Constructor<?>[] constructors = face.getDeclaredConstructors();
        Check.due("one constructor", constructors.length, 1);
        Check.due("without parameters", constructors[0].getParameterCount(), 0);
        Check.due("public", Modifier.isPublic(constructors[0].getModifiers()), true);
        Check.due("few classes inside", face.getDeclaredClasses().length < 12, true);
        inside(face, names);
        Check.end();
    }

    private static void inside(Class<?> face, Set<String> names) {
        for (Class<?> c : face.getDeclaredClasses()) {
            Check.due(c + " is static", Modifier.isStatic(c.getModifiers()) && !Modifier.isPublic(c.getModifiers()), true);
        }
        for (Class<?> c : face.getDeclaredClasses()) {
            for (Field f : c.getDeclaredFields()) {
                boolean still = !Modifier.isStatic(f.getModifiers()) || Modifier.isFinal(f.getModifiers());
                Check.due(f + " is no static state", still, true);
            }
            for (Method m : c.getDeclaredMethods()) {
                Check.due(m + " has few parameters", m.getParameterCount() <= 7, true);
                Check.due(m + " has a name of its own", names.contains(m.getName()), false);
            }
        }
    }
}
