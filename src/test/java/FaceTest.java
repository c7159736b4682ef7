import java.lang.reflect.Constructor;
import java.lang.reflect.Field;
import java.lang.reflect.Method;
import java.lang.reflect.Modifier;
import java.util.Arrays;
import java.util.Set;
import java.util.TreeSet;

/** The public face is the document's, and nothing else of the class can be seen from outside. */
public final class FaceTest {
    private static final String[] FACE = {
        "int link(int, int, int, int) throws IllegalArgumentException, IllegalStateException",
        "int make(int) throws IllegalArgumentException, IllegalStateException",
        "int set(int, int, int, int) throws IllegalArgumentException, NoSuchElementException, ClassCastException,"
            + " UnsupportedOperationException, IndexOutOfBoundsException, IllegalStateException",
        "int cut(int, int, int) throws IllegalArgumentException, NoSuchElementException, ClassCastException",
        "int drop(int) throws NoSuchElementException, IllegalStateException",
        "int copy(int) throws NoSuchElementException, IllegalStateException",
        "boolean alike(int, int) throws NoSuchElementException",
        "int at(int, int, int) throws IllegalArgumentException, NoSuchElementException, ClassCastException,"
            + " IndexOutOfBoundsException",
        "int back(int, int, int) throws IllegalArgumentException, NoSuchElementException, ClassCastException,"
            + " IndexOutOfBoundsException",
        "int ask(int, int) throws IllegalArgumentException, NoSuchElementException",
        "int size(int, int, int) throws IllegalArgumentException, NoSuchElementException, ClassCastException",
        "int way(int, int) throws NoSuchElementException",
        "int path(int) throws IndexOutOfBoundsException",
        "int begin() throws IllegalStateException",
        "int end(boolean) throws IllegalStateException",
        "int count(int) throws IllegalArgumentException",
    };

    public static void main(String[] args) {
        Due due = new Due("FaceTest");
        Class<?> face = TwinLinks.class;
        due.same("public final", true, Modifier.isPublic(face.getModifiers()) && Modifier.isFinal(face.getModifiers()));
        due.same("its methods", new TreeSet<>(Arrays.asList(FACE)), visibleMethods(face));
        due.same("its constructors", 1, face.getDeclaredConstructors().length);
        for (Constructor<?> made : face.getDeclaredConstructors()) {
            due.same("its constructor", "public TwinLinks()", made.toString());
        }
        for (Field field : face.getDeclaredFields()) {
            due.same("private " + field, true, Modifier.isPrivate(field.getModifiers()));
            due.same("final if static: " + field, true, isFinalIfStatic(field));
        }
        for (Class<?> inside : face.getDeclaredClasses()) {
            due.same("static " + inside, true, Modifier.isStatic(inside.getModifiers()));
        }
        due.close();
    }

    private static Set<String> visibleMethods(Class<?> face) {
        Set<String> seen = new TreeSet<>();
        for (Method method : face.getDeclaredMethods()) {
            if (!Modifier.isPrivate(method.getModifiers())) {
                seen.add(written(method));
            }
        }
        return seen;
    }

    private static String written(Method method) {
        return method.getReturnType().getSimpleName() + " " + method.getName() + "("
            + names(method.getParameterTypes()) + ") throws " + names(method.getExceptionTypes());
    }

    private static String names(Class<?>[] types) {
        StringBuilder all = new StringBuilder();
        for (Class<?> type : types) {
            all.append(all.length() == 0 ? "" : ", ").append(type.getSimpleName());
        }
        return all.toString();
    }

    private static boolean isFinalIfStatic(Field field) {
        return !Modifier.isStatic(field.getModifiers()) || Modifier.isFinal(field.getModifiers());
    }
}
