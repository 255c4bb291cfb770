import java.lang.reflect.Constructor;
import java.lang.reflect.Field;
import java.lang.reflect.Method;
import java.lang.reflect.Modifier;
import java.util.Arrays;
import java.util.Set;
import java.util.TreeSet;
import java.util.stream.Collectors;

/** The public face is the document's, to the letter, and nothing else can be seen from outside. */
final class FaceTest {
    private static final String[] FACE = {
        "int input() throws IllegalStateException",
        "int gate(int, int, int, int) throws IllegalArgumentException, IllegalStateException",
        "int wires()",
        "int add(int, int) throws IllegalArgumentException, IllegalStateException",
        "int simulate(int) throws IllegalArgumentException",
        "long evaluate(int) throws IllegalArgumentException",
        "int prove() throws ArithmeticException",
        "int lines()",
        "int size(int) throws IllegalStateException, IndexOutOfBoundsException",
        "int monomial(int, int) throws IllegalStateException, IndexOutOfBoundsException",
        "long coefficient(int, int) throws IllegalStateException, IndexOutOfBoundsException",
        "long spoil(int, int, int) throws IllegalStateException, IndexOutOfBoundsException, ArithmeticException",
        "int check() throws IllegalStateException",
        "int witness() throws IllegalStateException, NoSuchElementException",
        "int clear()",
    };

    private FaceTest() {
    }

    public static void main(String[] args) {
        Class<?> face = GatePolynomials.class;
        Due.that("the class is public and final",
                Modifier.isPublic(face.getModifiers()) && Modifier.isFinal(face.getModifiers()));
        Due.that("the class has no package, parent or interface", face.getPackageName().isEmpty()
                && face.getSuperclass() == Object.class && face.getInterfaces().length == 0);
        Constructor<?>[] constructors = face.getDeclaredConstructors();
        Due.that("there is one constructor, public and without parameters", constructors.length == 1
                && Modifier.isPublic(constructors[0].getModifiers()) && constructors[0].getParameterCount() == 0);
        dueMethods(face);
        for (Field field : face.getDeclaredFields()) {
            Due.that("the field is private: " + field.getName(), Modifier.isPrivate(field.getModifiers()));
        }
        dueClassesInside(face);
        Due.end();
    }

    private static void dueMethods(Class<?> face) {
        Set<String> seen = new TreeSet<>();
        Set<String> names = new TreeSet<>();
        for (Method method : face.getDeclaredMethods()) {
            if (!Modifier.isPrivate(method.getModifiers())) {
                seen.add(told(method));
                names.add(method.getName());
                Due.that("a method of the face: " + method.getName(), Modifier.isPublic(method.getModifiers())
                        && !Modifier.isStatic(method.getModifiers()));
            }
        }
        Set<String> due = new TreeSet<>(Arrays.asList(FACE));
        Due.that("the methods are those of the document, seen are " + seen, seen.equals(due));
        for (Method method : face.getDeclaredMethods()) {
            Due.that("no private method is called as a public one: " + method.getName(),
                    !Modifier.isPrivate(method.getModifiers()) || !names.contains(method.getName()));
        }
    }

    private static void dueClassesInside(Class<?> face) {
        for (Class<?> inside : face.getDeclaredClasses()) {
            int modifiers = inside.getModifiers();
            Due.that("the class inside is static and hidden: " + inside.getName(), Modifier.isStatic(modifiers)
                    && !Modifier.isPublic(modifiers) && !Modifier.isProtected(modifiers));
        }
        for (Class<?> part : withFace(face)) {
            for (Field field : part.getDeclaredFields()) {
                Due.that("a static field is final: " + field.getName(), !Modifier.isStatic(field.getModifiers())
                        || Modifier.isFinal(field.getModifiers()));
            }
        }
    }

    private static Class<?>[] withFace(Class<?> face) {
        Class<?>[] inside = face.getDeclaredClasses();
        Class<?>[] all = Arrays.copyOf(inside, inside.length + 1);
        all[inside.length] = face;
        return all;
    }

    private static String told(Method method) {
        String parameters = names(method.getParameterTypes());
        String thrown = names(method.getExceptionTypes());
        return method.getReturnType().getSimpleName() + " " + method.getName() + "(" + parameters + ")"
                + (thrown.isEmpty() ? "" : " throws " + thrown);
    }

    private static String names(Class<?>[] classes) {
        return Arrays.stream(classes).map(Class::getSimpleName).collect(Collectors.joining(", "));
    }
}
