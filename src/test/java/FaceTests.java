import java.lang.reflect.Constructor;
import java.lang.reflect.Field;
import java.lang.reflect.Method;
import java.lang.reflect.Modifier;
import java.util.Arrays;
import java.util.TreeSet;
import java.util.stream.Collectors;

/** The class shows the face of the document and nothing beside it. */
final class FaceTests {
    private static final String[] METHODS = {
        "int take(int, int) IllegalStateException IllegalArgumentException UnsupportedOperationException",
        "int give(int) IllegalStateException NoSuchElementException",
        "int store(int, int, int) IllegalStateException NoSuchElementException IndexOutOfBoundsException "
            + "IllegalArgumentException",
        "int load(int, int) IllegalStateException NoSuchElementException IndexOutOfBoundsException",
        "int size(int, int) IllegalStateException NoSuchElementException",
        "int setRoot(int, int) IllegalStateException IndexOutOfBoundsException NoSuchElementException",
        "int root(int) IllegalStateException IndexOutOfBoundsException",
        "int freeWords() IllegalStateException",
        "int largestFree() IllegalStateException",
        "int extent(int) IllegalStateException IndexOutOfBoundsException",
        "int reached() IllegalStateException",
        "boolean order(int)",
        "int recover() IllegalStateException",
        "int writes()",
        "boolean down()",
    };

    private FaceTests() {
    }

    public static void main(String[] args) {
        Class<?> face = RootedWords.class;
        Check.same("the class", Modifier.toString(face.getModifiers()), "public final");
        TreeSet<String> names = new TreeSet<>();
        TreeSet<String> seen = new TreeSet<>();
        for (Method method : face.getDeclaredMethods()) {
            if (!Modifier.isPrivate(method.getModifiers())) {
                Check.same(method.getName(), Modifier.toString(method.getModifiers()), "public");
                seen.add(told(method));
                names.add(method.getName());
            }
        }
        Check.same("methods", seen.toString(), new TreeSet<>(Arrays.asList(METHODS)).toString());
        for (Method method : face.getDeclaredMethods()) {
            Check.no("a private method with the name " + method.getName(),
                    Modifier.isPrivate(method.getModifiers()) && names.contains(method.getName()));
        }
        for (Constructor<?> constructor : face.getDeclaredConstructors()) {
            Check.same("constructor", constructor.toString(), "public RootedWords()");
        }
        for (Field field : face.getDeclaredFields()) {
            Check.yes("private or NONE: " + field.getName(), Modifier.isPrivate(field.getModifiers())
                    || field.toString().equals("public static final int RootedWords.NONE"));
            Check.yes("final, if static: " + field.getName(), Modifier.isFinal(field.getModifiers())
                    || !Modifier.isStatic(field.getModifiers()));
        }
        for (Class<?> inside : face.getDeclaredClasses()) {
            Check.yes("static inside: " + inside.getName(), Modifier.isStatic(inside.getModifiers())
                    && !Modifier.isPublic(inside.getModifiers()) && !Modifier.isProtected(inside.getModifiers()));
        }
        Check.end("FaceTests");
    }

    private static String told(Method method) {
        String takes = Arrays.stream(method.getParameterTypes()).map(Class::getSimpleName)
                .collect(Collectors.joining(", "));
        String thrown = Arrays.stream(method.getExceptionTypes()).map(e -> " " + e.getSimpleName())
                .collect(Collectors.joining());
        return method.getReturnType() + " " + method.getName() + "(" + takes + ")" + thrown;
    }
}
