import java.lang.reflect.Constructor;
import java.lang.reflect.Field;
import java.lang.reflect.Method;
import java.lang.reflect.Modifier;
import java.util.HashSet;
import java.util.Set;
import java.util.TreeSet;

/** The face: just the document's constants, constructor and methods. */
public final class FaceTest {
    private static final String[] METHODS = {
        "int house()", "int one(int, int)", "int type(int)", "int clear()", "int read()",
        "int meets(int, int)", "int goes(int, int)", "int waits(int)", "int carpet(int, int)", "int step(int, int)",
        "int undo()", "int of(int, int)", "int about(int, int)",
        "int asks(int, int, int)", "int word(int)", "int high(int)", "int hears(int, int)", "int then(int, int)",
        "int plan(int, int, int)",
        "int seen(int, int, int)", "int may(int, int)", "int note(int, int, int, int)", "int mark(int, int, int, int)",
        "int forget(int)", "int is(int)", "int look(int)", "int kinds(int)", "int ask(int)",
        "int hosts(int, int, int, int)", "int slips(int, int, int)", "int evenings(int, int)",
        "long part(int)", "int image(int)", "int from(int)", "int status(int)", "int count(int)", "long digest()"
    };

    public static void main(String[] args) {
        Class<?> face = StairManners.class;
        Due.holds("public and final", Modifier.isPublic(face.getModifiers()) && Modifier.isFinal(face.getModifiers()));
        Due.is("NONE", StairManners.NONE, -1);
        Due.is("BAD", StairManners.BAD, -2);
        Due.is("NO", StairManners.NO, -3);
        Due.is("FULL", StairManners.FULL, -4);
        Set<String> constants = new TreeSet<>();
        for (Field field : face.getDeclaredFields()) {
            if (!Modifier.isPrivate(field.getModifiers())) {
                Due.holds(field + " is a public constant", Modifier.isPublic(field.getModifiers())
                    && Modifier.isStatic(field.getModifiers()) && Modifier.isFinal(field.getModifiers()));
                constants.add(field.getType() + " " + field.getName());
            }
        }
        Due.holds("constants: " + constants, constants.equals(Set.of("int NONE", "int BAD", "int NO", "int FULL")));
        constructors(face);
        methods(face);
        Set<String> names = new HashSet<>();
        for (String method : METHODS) {
            names.add(method.substring(method.indexOf(' ') + 1, method.indexOf('(')));
        }
        privateNames(face, names);
        for (Class<?> inside : face.getDeclaredClasses()) {
            Due.holds(inside + " is static and not public", Modifier.isStatic(inside.getModifiers())
                && !Modifier.isPublic(inside.getModifiers()) && !Modifier.isProtected(inside.getModifiers()));
            privateNames(inside, names);
        }
        Due.holds("at most twelve classes", face.getDeclaredClasses().length < 12);
        Due.finish();
    }

    private static void constructors(Class<?> face) {
        int open = 0;
        for (Constructor<?> constructor : face.getDeclaredConstructors()) {
            if (!Modifier.isPrivate(constructor.getModifiers())) {
                open++;
                Due.holds("a public constructor of nothing", Modifier.isPublic(constructor.getModifiers())
                    && constructor.getParameterCount() == 0);
            }
        }
        Due.is("constructors", open, 1);
    }

    private static void methods(Class<?> face) {
        Set<String> open = new TreeSet<>();
        for (Method method : face.getDeclaredMethods()) {
            if (!Modifier.isPrivate(method.getModifiers())) {
                Due.holds(method + " is public and no static one", Modifier.isPublic(method.getModifiers())
                    && !Modifier.isStatic(method.getModifiers()));
                StringBuilder types = new StringBuilder();
                for (Class<?> type : method.getParameterTypes()) {
                    types.append(types.length() == 0 ? "" : ", ").append(type);
                }
                open.add(method.getReturnType() + " " + method.getName() + "(" + types + ")");
            }
        }
        Due.holds("methods: " + open, open.equals(new TreeSet<>(Set.of(METHODS))));
    }

    private static void privateNames(Class<?> type, Set<String> names) {
        for (Method method : type.getDeclaredMethods()) {
            boolean own = type != StairManners.class || Modifier.isPrivate(method.getModifiers());
            Due.holds(method + " bears no public one's name", !own || !names.contains(method.getName()));
            Due.holds(method + " takes at most seven", method.getParameterCount() <= 7);
        }
    }
}
