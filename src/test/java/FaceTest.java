import java.lang.reflect.Field;
import java.lang.reflect.Method;
import java.lang.reflect.Modifier;
import java.util.Arrays;
import java.util.Set;
import java.util.TreeSet;
import java.util.stream.Collectors;

/** The public face is the document's, and no more; what is inside keeps to the rules 1, 2, 5 and 11 of LANGUAGE.md. */
public final class FaceTest {
    private static final String[] FACE = {
        "int row(int, int)", "int lay(int, int, int)", "int at(int, int)", "int tear(int)",
        "int copy(int, int, int, int, int)", "int mean(int)", "int text(int, int)", "int put(int, int, int)",
        "int fault(int)", "int village(int)", "int person(int, int)", "int draft(int, int)", "int mark(int, int)",
        "int owe(int, int)", "int meet(int, int)", "int clear(int)", "int endorse(int, int)", "int week()",
        "int undo(int)", "int keep(int)", "int on(int)", "int between(int, int, int)", "int all(int)",
        "int ring(int, int)", "int net(int)", "int left(int)", "int falls(int)", "int worst()", "int saved(int, int)",
        "int pairs()", "int rounds()", "int mistletoe()", "int gain(int)", "int trust(int, int)", "int blushes(int)",
        "int sure(int)", "int odds()", "int lots(int, int)", "int asked()", "long upper()", "long lower()",
        "int count(int)", "int finding()", "int findings(int)", "long digest()"};
    private static final Set<String> CONSTANTS = Set.of("BAD", "FULL", "FINDING", "STATE", "SPENT", "NONE");
    private static final Set<Class<?>> CONSTANT_TYPES = Set.of(int.class, long.class, boolean.class, char.class,
            String.class, int[].class, long[].class, char[].class, byte[].class);

    private static int wrong = 0;

    public static void main(String[] args) {
        Class<?> face = KissClearing.class;
        look("the class is public and final", Modifier.isPublic(face.getModifiers()) && Modifier.isFinal(face.getModifiers()));
        look("one public constructor without arguments", face.getDeclaredConstructors().length == 1
                && face.getConstructors().length == 1 && face.getConstructors()[0].getParameterCount() == 0);
        methods(face);
        fields(face);
        look("at most twelve classes", face.getDeclaredClasses().length < 12);
        for (Class<?> inside : face.getDeclaredClasses()) {
            inside(inside);
        }
        System.out.println(wrong == 0 ? "the face is as due" : wrong + " things are not as due");
        if (wrong != 0) {
            System.exit(1);
        }
    }

    private static void look(String what, boolean holds) {
        if (!holds) {
            wrong++;
            System.out.println("not so: " + what);
        }
    }

    private static String told(Method m) {
        String parameters = Arrays.stream(m.getParameterTypes()).map(Class::getName).collect(Collectors.joining(", "));
        return m.getReturnType().getName() + " " + m.getName() + "(" + parameters + ")";
    }

    private static void methods(Class<?> face) {
        Set<String> open = new TreeSet<>();
        for (Method m : face.getDeclaredMethods()) {
            boolean hidden = Modifier.isPrivate(m.getModifiers());
            look(told(m) + " is public or private", hidden || Modifier.isPublic(m.getModifiers()) && !Modifier.isStatic(m.getModifiers()));
            look(told(m) + " is private and bears no public name", !hidden || !isPublicName(m.getName()));
            if (!hidden) {
                open.add(told(m));
            }
        }
        look("the public methods are the document's: " + open, open.equals(new TreeSet<>(Arrays.asList(FACE))));
    }

    private static boolean isPublicName(String name) {
        return Arrays.stream(FACE).anyMatch(one -> one.contains(" " + name + "("));
    }

    private static void fields(Class<?> face) {
        int own = 0;
        for (Field f : face.getDeclaredFields()) {
            look(f + " is hidden, if it is none of the document's",
                    CONSTANTS.contains(f.getName()) == Modifier.isPublic(f.getModifiers())
                            && (Modifier.isPublic(f.getModifiers()) || Modifier.isPrivate(f.getModifiers())));
            constant(f);
            own += Modifier.isStatic(f.getModifiers()) ? 0 : 1;
        }
        look("at most twenty fields", own <= 20);
    }

    private static void constant(Field f) {
        if (Modifier.isStatic(f.getModifiers())) {
            look(f + " is a constant", Modifier.isFinal(f.getModifiers()) && CONSTANT_TYPES.contains(f.getType()));
        }
    }

    private static void inside(Class<?> inside) {
        look(inside + " is static and not public", Modifier.isStatic(inside.getModifiers())
                && !Modifier.isPublic(inside.getModifiers()) && !Modifier.isProtected(inside.getModifiers()));
        for (Method m : inside.getDeclaredMethods()) {
            look(inside + "." + told(m) + " bears no public name", !isPublicName(m.getName()));
        }
        int own = 0;
        for (Field f : inside.getDeclaredFields()) {
            constant(f);
            own += Modifier.isStatic(f.getModifiers()) ? 0 : 1;
        }
        look(inside + " has at most twenty fields", own <= 20);
    }
}
