import java.lang.reflect.Constructor;
import java.lang.reflect.Field;
import java.lang.reflect.Method;
import java.lang.reflect.Modifier;
import java.util.TreeSet;

/** The class shows the document's face, and nothing else. */
public final class FaceTest {
    private static final String I = "IndexOutOfBoundsException ";
    private static final String A = "IllegalArgumentException ";
    private static final String S = "IllegalStateException ";

    private static final String[] FACE = {
        "int begin(int int int) " + A + S,
        "int copy(int) " + I,
        "int node(int int int int int) " + I + A + S,
        "int set(int int) " + I + A,
        "int move(int int int) " + I + S,
        "int drop(int) " + I + S,
        "int seal() " + S,
        "int find(int int) " + I + S,
        "int turn(int) " + I + S,
        "int apply(int int) " + I + S,
        "int fuzz() ",
        "int setPolicy(int int) " + A,
        "int merge(int int int) " + I + S,
        "int version(int int int) " + I + A + S,
        "int mergeVersions(int int) " + I + A + S,
        "int takeBack(int int) " + I + S,
        "int trees() ",
        "int size(int) " + I,
        "int markAt(int int) " + I,
        "int value(int int) " + I,
        "int parent(int int) " + I,
        "boolean areAlike(int int) " + I,
        "boolean areSame(int int) " + I,
        "int match(int int int) " + I + S,
        "float likeness(int int int int) " + I + S,
        "int steps(int) " + I,
        "int stepKind(int int) " + I,
        "int stepMark(int int) " + I,
        "int stepTo(int int boolean) " + I,
        "int conflicts() ",
        "int conflictKind(int) " + I,
        "int conflictMark(int) " + I,
        "int versions() ",
        "int treeOf(int) " + I,
        "int touched(int int) " + I,
        "int look(int int int int) " + I + A + S,
    };
    private static final String[] CONSTANTS = {"NONE -1", "UPDATE 0", "PUT 1", "MOVE 2", "REMOVE 3", "GONE 0",
        "VALUE 1", "PLACE 2", "LOST 3", "RING 4", "ORDER 5", "NEITHER 0", "LEFT 1", "RIGHT 2"};

    public static void main(String[] args) throws IllegalAccessException {
        Check.is("the class is public and final", TwigPatch.class.getModifiers(), Modifier.PUBLIC | Modifier.FINAL);
        methods();
        constants();
        for (Constructor<?> constructor : TwigPatch.class.getDeclaredConstructors()) {
            Check.is("the constructor", constructor.toString(), "public TwigPatch()");
        }
        for (Class<?> inside : TwigPatch.class.getDeclaredClasses()) {
            Check.is(inside + " is static", Modifier.isStatic(inside.getModifiers()), true);
            Check.is(inside + " is not shown", Modifier.isPublic(inside.getModifiers()), false);
        }
        Check.end();
    }

    private static void methods() {
        TreeSet<String> shown = new TreeSet<>();
        TreeSet<String> names = new TreeSet<>();
        for (Method method : TwigPatch.class.getDeclaredMethods()) {
            if (Modifier.isPrivate(method.getModifiers()) || method.isSynthetic()) {
                names.add(method.getName());
                continue;
            }
            StringBuilder text = new StringBuilder(method.getReturnType() + " " + method.getName() + "(");
            for (Class<?> type : method.getParameterTypes()) {
                text.append(type).append(' ');
            }
            String head = text.toString().trim() + ") ";
            text = new StringBuilder(Modifier.isPublic(method.getModifiers()) ? head : "hidden " + head);
            for (Class<?> type : method.getExceptionTypes()) {
                text.append(type.getSimpleName()).append(' ');
            }
            shown.add(text.toString());
        }
        Check.is("the methods", shown, new TreeSet<>(java.util.List.of(FACE)));
        for (String line : FACE) {
            String name = line.substring(line.indexOf(' ') + 1, line.indexOf('('));
            Check.is("a private method is named " + name, names.contains(name), false);
        }
    }

    private static void constants() throws IllegalAccessException {
        TreeSet<String> shown = new TreeSet<>();
        for (Field field : TwigPatch.class.getDeclaredFields()) {
            if (!Modifier.isPrivate(field.getModifiers())) {
                boolean isConstant = field.getModifiers() == (Modifier.PUBLIC | Modifier.STATIC | Modifier.FINAL);
                shown.add(isConstant ? field.getName() + " " + field.getInt(null) : "hidden " + field.getName());
            }
        }
        Check.is("the constants", shown, new TreeSet<>(java.util.List.of(CONSTANTS)));
    }
}
