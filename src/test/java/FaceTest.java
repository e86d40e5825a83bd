import java.lang.reflect.Constructor;
import java.lang.reflect.Field;
import java.lang.reflect.Method;
import java.lang.reflect.Modifier;
import java.util.Arrays;
import java.util.Set;
import java.util.TreeSet;

/** The class shows the members of the document's public face, and no others. */
public final class FaceTest {
    private static int wrong = 0;

    public static void main(String[] args) {
        due("the class is public and final",
                Modifier.isPublic(CellPieces.class.getModifiers())
                        && Modifier.isFinal(CellPieces.class.getModifiers()), true);
        due("nested classes", CellPieces.class.getDeclaredClasses().length, 0);
        due("constants", visibleFields(), setOf("int BAD_ARG", "int NONE"));
        due("constructors", visibleConstructors(), setOf("()"));
        due("methods", visibleMethods(), setOf(
                "int turn(int)", "int line(int, int)", "int box(int, int, int)", "int cells()",
                "int pieces(int)", "int holes(int)", "int balance(int)", "int piece(int, int)",
                "int size(int, int)", "int largest(int)", "int edge()", "int grow(int)",
                "int shrink(int)", "int fill(int)", "int clear(int, int)", "int depth(int)",
                "int way(int, int, int)"));
        due("private methods named as public ones", namesTwice(), setOf());
        due("BAD_ARG", CellPieces.BAD_ARG, -1);
        due("NONE", CellPieces.NONE, -4);
        System.out.println(wrong == 0 ? "the face is as due" : wrong + " things are not as due");
        if (wrong != 0) {
            System.exit(1);
        }
    }

    private static void due(String what, Object got, Object want) {
        if (!got.equals(want)) {
            wrong++;
            System.out.println(what + ": found " + got + ", due is " + want);
        }
    }

    private static Set<String> setOf(String... members) {
        return new TreeSet<>(Arrays.asList(members));
    }

    private static String parameters(Class<?>[] types) {
        StringBuilder text = new StringBuilder("(");
        for (Class<?> type : types) {
            text.append(text.length() == 1 ? "" : ", ").append(type.getName());
        }
        return text.append(")").toString();
    }

    private static Set<String> visibleFields() {
        Set<String> found = new TreeSet<>();
        for (Field field : CellPieces.class.getDeclaredFields()) {
            int modifiers = field.getModifiers();
            if (!Modifier.isPrivate(modifiers)) {
                boolean isConstant = Modifier.isPublic(modifiers) && Modifier.isStatic(modifiers)
                        && Modifier.isFinal(modifiers);
                found.add((isConstant ? "" : "not constant ") + field.getType().getName() + " "
                        + field.getName());
            }
        }
        return found;
    }

    private static Set<String> visibleConstructors() {
        Set<String> found = new TreeSet<>();
        for (Constructor<?> constructor : CellPieces.class.getDeclaredConstructors()) {
            int modifiers = constructor.getModifiers();
            if (!Modifier.isPrivate(modifiers)) {
                found.add((Modifier.isPublic(modifiers) ? "" : "not public ")
                        + parameters(constructor.getParameterTypes()));
            }
        }
        return found;
    }

    private static Set<String> visibleMethods() {
        Set<String> found = new TreeSet<>();
        for (Method method : CellPieces.class.getDeclaredMethods()) {
            int modifiers = method.getModifiers();
            if (!Modifier.isPrivate(modifiers)) {
                boolean isPlain = Modifier.isPublic(modifiers) && !Modifier.isStatic(modifiers);
                found.add((isPlain ? "" : "not public or static ")
                        + method.getReturnType().getName() + " " + method.getName()
                        + parameters(method.getParameterTypes()));
            }
        }
        return found;
    }

    private static Set<String> namesTwice() {
        Set<String> shown = new TreeSet<>();
        Set<String> hidden = new TreeSet<>();
        for (Method method : CellPieces.class.getDeclaredMethods()) {
            (Modifier.isPrivate(method.getModifiers()) ? hidden : shown).add(method.getName());
        }
        shown.retainAll(hidden);
        return shown;
    }
}
