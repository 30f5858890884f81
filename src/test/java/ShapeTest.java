import java.lang.reflect.Constructor;
import java.lang.reflect.Field;
import java.lang.reflect.Method;
import java.lang.reflect.Modifier;
import java.util.Arrays;
import java.util.Set;
import java.util.TreeSet;

/** The class has the document's public face and no other visible member (LANGUAGE.md, rules 1 and 5). */
public final class ShapeTest {
    private static final String[] FACE = {
        "int point(int, int, int) IllegalArgumentException IllegalStateException",
        "int take(int) IndexOutOfBoundsException",
        "int build() IllegalStateException",
        "int of(int, int) IndexOutOfBoundsException",
        "int face(int, int) IllegalStateException IndexOutOfBoundsException",
        "long offset(int) IllegalStateException IndexOutOfBoundsException",
        "int corner(int, int) IllegalStateException IndexOutOfBoundsException",
        "int edge(int, int) IllegalStateException IndexOutOfBoundsException",
        "int support(int, int, int) IllegalStateException IllegalArgumentException",
        "int steps(int, int) IllegalStateException IndexOutOfBoundsException",
        "int side(int, int, int) IllegalStateException IllegalArgumentException",
        "long volume() IllegalStateException",
        "long centre(int) IllegalStateException IndexOutOfBoundsException",
        "double middle(int) IllegalStateException IndexOutOfBoundsException",
        "int count(int) IndexOutOfBoundsException",
    };

    public static void main(String[] args) {
        Check.sentence("The public face", "public final class HullBuilder");
        Check.isTrue("the class is public and final",
            HullBuilder.class.getModifiers() == (Modifier.PUBLIC | Modifier.FINAL));
        Check.sentence("The public face", "public HullBuilder();");
        Constructor<?>[] constructors = HullBuilder.class.getDeclaredConstructors();
        Check.due("constructors", constructors.length, 1);
        Check.isTrue("the constructor is public and bare",
            constructors[0].getModifiers() == Modifier.PUBLIC && constructors[0].getParameterCount() == 0);
        Check.sentence("The public face", "public int point(int x, int y, int z) throws IllegalArgumentException, "
            + "IllegalStateException;");
        Check.due("all methods", visibleMethods(), new TreeSet<>(Arrays.asList(FACE)));
        fields();
        privateNames();
        Check.sentence("LANGUAGE.md, rule 1", "the classes inside it, which are private or package-visible and "
            + "static");
        for (Class<?> inside : HullBuilder.class.getDeclaredClasses()) {
            Check.isTrue(inside + " is static", Modifier.isStatic(inside.getModifiers()));
        }
        Check.end();
    }

    private static Set<String> visibleMethods() {
        Set<String> found = new TreeSet<>();
        for (Method m : HullBuilder.class.getDeclaredMethods()) {
            if (Modifier.isPrivate(m.getModifiers())) {
                continue;
            }
            Check.due(m + " is", Modifier.toString(m.getModifiers()), "public");
            StringBuilder told = new StringBuilder(m.getReturnType() + " " + m.getName());
            told.append(Arrays.toString(m.getParameterTypes()).replace('[', '(').replace(']', ')'));
            for (Class<?> e : m.getExceptionTypes()) {
                told.append(' ').append(e.getSimpleName());
            }
            found.add(told.toString());
        }
        return found;
    }

    private static void fields() {
        Check.sentence("The public face", "public static final int NONE = -1;");
        for (Field f : HullBuilder.class.getDeclaredFields()) {
            String told = Modifier.toString(f.getModifiers());
            if (f.getName().equals("NONE")) {
                Check.due("NONE is", told, "public static final");
            } else {
                Check.isTrue(f + " is private", told.startsWith("private"));
                Check.isTrue(f + " is final if static", !told.contains("static") || told.contains("final"));
            }
        }
        Check.due("NONE", HullBuilder.NONE, -1);
    }

    private static void privateNames() {
        Check.sentence("LANGUAGE.md, rule 1", "No private method bears the name of a public one.");
        for (Method own : HullBuilder.class.getDeclaredMethods()) {
            for (Method other : HullBuilder.class.getDeclaredMethods()) {
                boolean clash = Modifier.isPrivate(own.getModifiers()) && Modifier.isPublic(other.getModifiers())
                    && own.getName().equals(other.getName());
                Check.isTrue(own + " bears a name of its own", !clash);
            }
        }
    }
}
