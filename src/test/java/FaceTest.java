import java.lang.reflect.Constructor;
import java.lang.reflect.Field;
import java.lang.reflect.Method;
import java.lang.reflect.Modifier;
import java.util.ArrayList;
import java.util.Arrays;
import java.util.List;
import java.util.stream.Collectors;

/** The public face of the document, and rule 1 of LANGUAGE.md: nothing else is seen from outside. */
public final class FaceTest {
    private static final String[] FACE = {
        "int melt(int, int) throws IllegalArgumentException, UnsupportedOperationException",
        "int cut(int, int) throws IndexOutOfBoundsException, IllegalStateException, IllegalArgumentException, UnsupportedOperationException",
        "int weld(int, int) throws IndexOutOfBoundsException, IllegalStateException, UnsupportedOperationException",
        "int roll(int, int, int) throws IndexOutOfBoundsException, IllegalStateException, IllegalArgumentException, UnsupportedOperationException",
        "int slit(int, int) throws IndexOutOfBoundsException, IllegalStateException, IllegalArgumentException, UnsupportedOperationException",
        "void hold(int, boolean) throws IndexOutOfBoundsException, IllegalStateException",
        "int scrap(int) throws IndexOutOfBoundsException, IllegalStateException",
        "int back(int, int) throws IllegalArgumentException, UnsupportedOperationException",
        "int at(int, int) throws IndexOutOfBoundsException",
        "long origin(int, int, int) throws IndexOutOfBoundsException, IllegalArgumentException",
        "int defect(int, int) throws IndexOutOfBoundsException, IllegalArgumentException, UnsupportedOperationException",
        "long has(int, int, int) throws IndexOutOfBoundsException",
        "int recall(int, int) throws IndexOutOfBoundsException",
        "long told(int) throws IndexOutOfBoundsException",
    };

    public static void main(String[] args) {
        Class<?> face = PieceTrace.class;
        Check.due("modifiers", Modifier.toString(face.getModifiers()), "public final");
        constructors(face);
        methods(face);
        fields(face);
        classesInside(face);
        Check.end();
    }

    private static void constructors(Class<?> face) {
        Constructor<?>[] all = face.getDeclaredConstructors();
        Check.due("constructors", all.length, 1);
        Check.due("its parameters", all[0].getParameterCount(), 0);
        Check.due("it is public", Modifier.isPublic(all[0].getModifiers()), true);
    }

    private static void methods(Class<?> face) {
        List<String> seen = new ArrayList<>();
        List<String> names = new ArrayList<>();
        for (Method method : face.getDeclaredMethods()) {
            if (!Modifier.isPrivate(method.getModifiers())) {
                Check.due(method.getName(), Modifier.toString(method.getModifiers()), "public");
                seen.add(written(method));
                names.add(method.getName());
            }
        }
        for (Method method : face.getDeclaredMethods()) {
            boolean hidden = Modifier.isPrivate(method.getModifiers());
            Check.due(method.getName() + " bears a public name", hidden && names.contains(method.getName()), false);
        }
        List<String> due = new ArrayList<>(Arrays.asList(FACE));
        seen.sort(null);
        due.sort(null);
        Check.due("methods", seen, due);
    }

    private static String written(Method method) {
        return method.getReturnType() + " " + method.getName() + "(" + joined(method.getParameterTypes())
            + ") throws " + joined(method.getExceptionTypes());
    }

    private static String joined(Class<?>[] types) {
        return Arrays.stream(types).map(Class::getSimpleName).collect(Collectors.joining(", "));
    }

    private static void fields(Class<?> face) {
        for (Field field : face.getDeclaredFields()) {
            Check.due(field.getName() + " is private", Modifier.isPrivate(field.getModifiers()), true);
            boolean loose = Modifier.isStatic(field.getModifiers()) && !Modifier.isFinal(field.getModifiers());
            Check.due(field.getName() + " is static and not final", loose, false);
        }
    }

    /** Those are "private or package-visible and static". */
    private static void classesInside(Class<?> face) {
        for (Class<?> inside : face.getDeclaredClasses()) {
            int modifiers = inside.getModifiers();
            boolean seen = Modifier.isPublic(modifiers) || Modifier.isProtected(modifiers);
            Check.due(inside.getName() + " is public or protected", seen, false);
            Check.due(inside.getName() + " is static", Modifier.isStatic(modifiers), true);
        }
    }
}
