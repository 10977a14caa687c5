import java.lang.reflect.Constructor;
import java.lang.reflect.Field;
import java.lang.reflect.Method;
import java.lang.reflect.Modifier;
import java.util.Arrays;
import java.util.HashSet;
import java.util.Set;
import java.util.TreeSet;

/** The class has the public face of the document, and nothing else that can be seen from outside. */
public final class FaceTest {
    private static final String[] FACE = {
        "int addPiece(int, int, int, int) throws IllegalArgumentException, IllegalStateException",
        "int setNames(int, int, int) throws IndexOutOfBoundsException, IllegalArgumentException",
        "int names(int, int) throws IndexOutOfBoundsException",
        "boolean setName(int, boolean, int) throws IndexOutOfBoundsException, IllegalArgumentException",
        "int dropPiece() throws IllegalStateException",
        "int pieceCount()",
        "int setWeight(int, int) throws IndexOutOfBoundsException, IllegalArgumentException",
        "int setSpan(int) throws IllegalArgumentException",
        "int points(int, int, int) throws IndexOutOfBoundsException, IllegalArgumentException",
        "int affinity(int, int) throws IndexOutOfBoundsException, IllegalArgumentException",
        "int closest(int) throws IndexOutOfBoundsException",
        "int setThreshold(int) throws IllegalArgumentException",
        "int setManner(int) throws IllegalArgumentException",
        "int say(int, int, int) throws IndexOutOfBoundsException, IllegalArgumentException, IllegalStateException",
        "int groupCount()",
        "int group(int) throws IndexOutOfBoundsException",
        "int groupOf(int) throws IndexOutOfBoundsException",
        "int linkage(int, int) throws IndexOutOfBoundsException, IllegalArgumentException",
        "int lastLinkage()",
        "boolean needs(int, int) throws IndexOutOfBoundsException, IllegalArgumentException",
        "int parcelCount()",
        "int parcel(int) throws IndexOutOfBoundsException",
        "int parcelOf(int) throws IndexOutOfBoundsException",
        "int knots()",
        "int lines(int) throws IndexOutOfBoundsException",
        "int broken(int) throws IllegalArgumentException",
        "int breakage()",
        "int leastBreakage() throws IllegalStateException",
        "int best(int) throws IllegalStateException, IndexOutOfBoundsException",
        "int setPurpose(int, int) throws IndexOutOfBoundsException, IllegalArgumentException",
        "double agreement()",
        "long digest()",
    };

    public static void main(String[] args) {
        Class<?> face = ChangeUntangler.class;
        Check.same("modifiers", Modifier.PUBLIC | Modifier.FINAL, face.getModifiers());
        Check.same("superclass", "java.lang.Object", face.getSuperclass().getName());
        Check.same("interfaces", 0, face.getInterfaces().length);
        constructors(face);
        Set<String> names = methods(face);
        fields(face);
        for (Class<?> inside : face.getDeclaredClasses()) {
            inside(inside, names);
        }
        Check.end();
    }

    private static void constructors(Class<?> face) {
        Check.same("constructors", 1, face.getDeclaredConstructors().length);
        for (Constructor<?> constructor : face.getDeclaredConstructors()) {
            Check.same("the constructor", Modifier.PUBLIC, constructor.getModifiers());
            Check.same("its parameters", 0, constructor.getParameterCount());
            Check.same("its exceptions", 0, constructor.getExceptionTypes().length);
        }
    }

    private static String told(Method method) {
        StringBuilder text = new StringBuilder();
        text.append(method.getReturnType().getSimpleName()).append(' ').append(method.getName()).append('(');
        String between = "";
        for (Class<?> type : method.getParameterTypes()) {
            text.append(between).append(type.getSimpleName());
            between = ", ";
        }
        text.append(')');
        between = " throws ";
        for (Class<?> type : method.getExceptionTypes()) {
            text.append(between).append(type.getSimpleName());
            between = ", ";
        }
        return text.toString();
    }

    private static Set<String> methods(Class<?> face) {
        Set<String> seen = new TreeSet<>();
        Set<String> names = new HashSet<>();
        for (Method method : face.getDeclaredMethods()) {
            if (Modifier.isPublic(method.getModifiers())) {
                seen.add(told(method));
                names.add(method.getName());
                Check.same("modifiers of " + method.getName(), Modifier.PUBLIC, method.getModifiers());
            }
        }
        Check.same("the face", new TreeSet<>(Arrays.asList(FACE)).toString(), seen.toString());
        for (Method method : face.getDeclaredMethods()) {
            if (!Modifier.isPublic(method.getModifiers())) {
                Check.same(method.getName() + " is private", true, Modifier.isPrivate(method.getModifiers()));
                isNotOfTheFace(method, names);
            }
        }
        return names;
    }

    private static void fields(Class<?> face) {
        for (Field field : face.getDeclaredFields()) {
            int modifiers = field.getModifiers();
            Check.same(field.getName() + " is private", true, Modifier.isPrivate(modifiers));
            Check.same(field.getName() + " is static and set", false,
                Modifier.isStatic(modifiers) && !Modifier.isFinal(modifiers));
        }
    }

    private static void inside(Class<?> inside, Set<String> names) {
        int modifiers = inside.getModifiers();
        Check.same(inside + " is seen", false, Modifier.isPublic(modifiers) || Modifier.isProtected(modifiers));
        for (Method method : inside.getDeclaredMethods()) {
            if (Modifier.isPrivate(method.getModifiers())) {
                isNotOfTheFace(method, names);
            }
        }
    }

    private static void isNotOfTheFace(Method method, Set<String> names) {
        Check.same(method.getName() + " bears a name of the face", false, names.contains(method.getName()));
    }
}
