import java.lang.reflect.Constructor;
import java.lang.reflect.Field;
import java.lang.reflect.Method;
import java.lang.reflect.Modifier;
import java.util.Set;
import java.util.TreeSet;

/** The public face: just the signatures of the document, and what LANGUAGE.md's rules 1 and 5 say of members. */
public final class FaceTest {
    private static final Due due = new Due();
    private static final String[] FACE = {
        "int make(int, int)",
        "int attach(int)",
        "void insert(int, int, int) IndexOutOfBoundsException IllegalArgumentException NoSuchElementException",
        "boolean remove(int)",
        "boolean command(int, int, int)",
        "boolean clear(int)",
        "int listen(int, int, int, int)",
        "boolean unlisten(int)",
        "boolean dispatch(int, int, int) NoSuchElementException IllegalArgumentException",
        "void box(int, double, double, double, double) IllegalArgumentException",
        "boolean zoom(int, double, int)",
        "double place(int, int) NoSuchElementException IllegalArgumentException",
        "int hit(double, double)",
        "int pointer(double, double, boolean)",
        "int node(int, int)",
        "int child(int, int)",
        "int call(int, int)",
        "int look(int)",
    };

    public static void main(String[] args) {
        publicMethods();
        nothingElseIsOpen();
        due.end();
    }

    private static String told(Method m) {
        StringBuilder text = new StringBuilder();
        text.append(m.getReturnType().getSimpleName()).append(' ').append(m.getName()).append('(');
        for (Class<?> p : m.getParameterTypes()) {
            text.append(text.charAt(text.length() - 1) == '(' ? "" : ", ").append(p.getSimpleName());
        }
        text.append(')');
        for (Class<?> e : m.getExceptionTypes()) {
            text.append(' ').append(e.getSimpleName());
        }
        return text.toString();
    }

    private static void publicMethods() {
        Set<String> found = new TreeSet<>();
        for (Method m : NodeStage.class.getDeclaredMethods()) {
            if (!Modifier.isPrivate(m.getModifiers())) {
                found.add((Modifier.isPublic(m.getModifiers()) ? "" : "not public: ") + told(m));
            }
        }
        due.is("the face", found.toString(), new TreeSet<>(Set.of(FACE)).toString());
        due.is("a public final class", Modifier.toString(NodeStage.class.getModifiers()), "public final");
        Constructor<?>[] made = NodeStage.class.getDeclaredConstructors();
        due.is("constructors", made.length, 1);
        due.is("the constructor", made[0].toString(), "public NodeStage()");
    }

    private static void nothingElseIsOpen() {
        Set<String> names = new TreeSet<>();
        for (String signature : FACE) {
            names.add(signature.substring(signature.indexOf(' ') + 1, signature.indexOf('(')));
        }
        checkFields(NodeStage.class);
        for (Method m : NodeStage.class.getDeclaredMethods()) {
            due.is(m + " bears a public name", Modifier.isPrivate(m.getModifiers()) && names.contains(m.getName()), false);
        }
        for (Field f : NodeStage.class.getDeclaredFields()) {
            due.is(f + " is private", Modifier.isPrivate(f.getModifiers()), true);
        }
        for (Class<?> inside : NodeStage.class.getDeclaredClasses()) {
            due.is(inside + " is static", Modifier.isStatic(inside.getModifiers()), true);
            checkFields(inside);
            for (Method m : inside.getDeclaredMethods()) {
                due.is(m + " bears a public name", names.contains(m.getName()), false);
            }
        }
    }

    private static void checkFields(Class<?> c) {
        for (Field f : c.getDeclaredFields()) {
            if (Modifier.isStatic(f.getModifiers())) {
                due.is(f + " is final", Modifier.isFinal(f.getModifiers()), true);
                due.is(f + " is an int", f.getType() == int.class, true);
            }
        }
    }
}
