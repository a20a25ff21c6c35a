import java.lang.reflect.Constructor;
import java.lang.reflect.Field;
import java.lang.reflect.Method;
import java.lang.reflect.Modifier;
import java.util.Set;
import java.util.TreeSet;

/** The class has the members of the document's face, and no others that can be seen from outside. */
final class FaceTest {
    private static final String[] FACE = {
        "int aboveIn(int) throws IllegalArgumentException",
        "int append(int) throws IllegalArgumentException,IllegalStateException",
        "int clearBuffer() throws ",
        "int complain(int) throws IllegalArgumentException,IllegalStateException",
        "int complaint(int,int) throws IndexOutOfBoundsException,IllegalArgumentException",
        "int correct(int,int,int) throws IndexOutOfBoundsException,IllegalArgumentException",
        "int count(int) throws IllegalArgumentException",
        "int exceedance(int,int) throws IndexOutOfBoundsException,IllegalArgumentException",
        "int firstError() throws ",
        "int forget(int) throws IllegalArgumentException",
        "int ifSet(int,int,int) throws IndexOutOfBoundsException,IllegalArgumentException",
        "int leastLimit(int) throws IllegalArgumentException",
        "int levelCount(int) throws IllegalArgumentException",
        "int load() throws IllegalArgumentException,IllegalStateException",
        "int minute(int,int) throws IndexOutOfBoundsException,IllegalArgumentException",
        "int percentLevel(int) throws IllegalArgumentException",
        "int set(int,int) throws IndexOutOfBoundsException,IllegalArgumentException",
        "int setting(int) throws IndexOutOfBoundsException",
        "int tell(int,int,int) throws IllegalArgumentException,IllegalStateException",
        "int undo() throws IllegalStateException",
        "int withdraw(int) throws IndexOutOfBoundsException",
        "double share() throws ",
        "long digest() throws ",
    };

    public static void main(String[] args) {
        Check check = new Check();
        Class<NoisePost> face = NoisePost.class;
        check.is("modifiers", Modifier.PUBLIC | Modifier.FINAL, face.getModifiers());
        check.is("NONE", -1, NoisePost.NONE);

        Set<String> names = new TreeSet<>();
        Set<String> due = new TreeSet<>(Set.of(FACE));
        Set<String> got = new TreeSet<>();
        for (Method method : face.getDeclaredMethods()) {
            if (!Modifier.isPrivate(method.getModifiers()) && !method.isSynthetic()) {
                check.is(method + " is public", true, Modifier.isPublic(method.getModifiers()));
                check.is(method + " is of the object", false, Modifier.isStatic(method.getModifiers()));
                got.add(text(method));
                names.add(method.getName());
            }
        }
        check.is("methods", due, got);
        for (Method method : face.getDeclaredMethods()) {
            if (Modifier.isPrivate(method.getModifiers())) {
                check.is(method + " bears the name of a public one", false, names.contains(method.getName()));
            }
        }
        for (Field field : face.getDeclaredFields()) {
            boolean isPrivate = Modifier.isPrivate(field.getModifiers());
            boolean isNone = field.getName().equals("NONE");
            check.is(field + " is private or NONE", true, isPrivate || isNone || field.isSynthetic());
        }
        Constructor<?>[] constructors = face.getDeclaredConstructors();
        check.is("constructors", 1, constructors.length);
        check.is("constructor", "public NoisePost()", constructors[0].toString());
        for (Class<?> inside : face.getDeclaredClasses()) {
            int modifiers = inside.getModifiers();
            check.is(inside + " is static and not public", true,
                Modifier.isStatic(modifiers) && !Modifier.isPublic(modifiers) && !Modifier.isProtected(modifiers));
        }
        check.end("FaceTest");
    }

    private static String text(Method method) {
        return method.getReturnType().getSimpleName() + " " + method.getName() + "("
            + simple(method.getParameterTypes()) + ") throws " + simple(method.getExceptionTypes());
    }

    private static String simple(Class<?>[] types) {
        StringBuilder text = new StringBuilder();
        for (Class<?> type : types) {
            text.append(text.length() == 0 ? "" : ",").append(type.getSimpleName());
        }
        return text.toString();
    }
}
