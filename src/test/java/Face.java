import java.lang.reflect.Constructor;
import java.lang.reflect.Field;
import java.lang.reflect.Method;
import java.lang.reflect.Modifier;
import java.util.ArrayList;
import java.util.Arrays;
import java.util.List;
import java.util.Set;
import java.util.TreeSet;

/** The public face is the document's, nothing else can be seen from outside, and the classes keep their size. */
final class Face {
    private static final String[] METHODS = {
        "int feed(int,int,int,int,int)", "int end(int)", "int book(int,int,int)", "int wrong()", "boolean rule(int)",
        "int compare(int,int,int)", "int ordered(int,int)", "int quarrels()", "int shelf(int)",
        "boolean sizes(int,int)", "int laid(int,int)", "int shelfOf(int,int)", "int counts(int)",
        "boolean way(int,int)", "int crate(int,int)", "int meeting(int)", "int where(int,int,int)", "int row()",
        "int at(int)", "boolean misplace(int,int)", "int takenOut()", "int isOut(int)", "int drawn(int,int,int)",
        "int about(int)"};

    private final Checks checks;

    Face(Checks checks) {
        this.checks = checks;
    }

    void all() {
        checks.run("the face: methods", this::methods);
        checks.run("the face: constants, constructors, classes", this::others);
        checks.run("the language: few classes, fields and parameters, and their types", this::sizes);
    }

    private void methods() {
        Set<String> open = new TreeSet<>();
        Set<String> names = new TreeSet<>();
        for (Method m : BooksMoved.class.getDeclaredMethods()) {
            if (!Modifier.isPrivate(m.getModifiers())) {
                String types = Arrays.toString(m.getParameterTypes()).replace(", ", ",");
                open.add(m.getReturnType() + " " + m.getName() + "(" + types.substring(1, types.length() - 1) + ")");
                names.add(m.getName());
                checks.due(m.getName() + " is public alone", Modifier.PUBLIC, m.getModifiers());
            }
        }
        checks.due("open methods", new TreeSet<>(Arrays.asList(METHODS)), open);
        for (Method m : BooksMoved.class.getDeclaredMethods()) {
            checks.due(m + " has a name of its own", false,
                    Modifier.isPrivate(m.getModifiers()) && names.contains(m.getName()));
        }
    }

    private void others() {
        checks.due("the class", Modifier.PUBLIC | Modifier.FINAL, BooksMoved.class.getModifiers());
        for (Field f : BooksMoved.class.getDeclaredFields()) {
            checks.due(f + " is private", !f.getName().equals("NONE"), Modifier.isPrivate(f.getModifiers()));
            checks.due(f + " is final if static", true,
                    !Modifier.isStatic(f.getModifiers()) || Modifier.isFinal(f.getModifiers()));
        }
        checks.due("NONE", -1, BooksMoved.NONE);
        Constructor<?>[] constructors = BooksMoved.class.getDeclaredConstructors();
        checks.due("constructors", 1, constructors.length);
        checks.due("its modifiers", Modifier.PUBLIC, constructors[0].getModifiers());
        checks.due("its arguments", 0, constructors[0].getParameterCount());
        for (Class<?> c : BooksMoved.class.getDeclaredClasses()) {
            checks.due(c + " is static", true, Modifier.isStatic(c.getModifiers()));
            checks.due(c + " is not public", false, Modifier.isPublic(c.getModifiers()));
        }
    }

    private void sizes() {
        List<Class<?>> all = new ArrayList<>(Arrays.asList(BooksMoved.class.getDeclaredClasses()));
        all.add(BooksMoved.class);
        checks.due("at most twelve classes", true, all.size() <= 12);
        for (Class<?> c : all) {
            int fields = 0;
            for (Field f : c.getDeclaredFields()) {
                fields += Modifier.isStatic(f.getModifiers()) ? 0 : 1;
                checks.due(f + " is of a type that may be", true, mayBe(f.getType(), all));
            }
            checks.due(c + " has at most twenty fields", true, fields <= 20);
            for (Method m : c.getDeclaredMethods()) {
                checks.due(m + " takes at most seven parameters", true, m.getParameterCount() <= 7);
            }
        }
    }

    /** Numbers, booleans, classes of its own; rows of those; rows of rows of numbers alone. */
    private static boolean mayBe(Class<?> type, List<Class<?>> own) {
        Class<?> part = type.isArray() ? type.getComponentType() : type;
        if (part.isArray()) {
            return part.getComponentType().isPrimitive() && part.getComponentType() != boolean.class;
        }
        return part.isPrimitive() || own.contains(part);
    }
}
