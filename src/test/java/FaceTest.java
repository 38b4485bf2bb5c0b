import java.lang.reflect.Constructor;
import java.lang.reflect.Field;
import java.lang.reflect.Method;
import java.lang.reflect.Modifier;
import java.util.Arrays;
import java.util.Set;
import java.util.TreeSet;

/** The public face of the document, and rule 1 of the language. */
public final class FaceTest {
    private static final String[] FACE = {
        "int put(int,int,int,int) throws IllegalArgumentException,UnsupportedOperationException",
        "int take(int,int,int,int) throws IllegalArgumentException,UnsupportedOperationException",
        "int move(int,int,int,int,int) throws IllegalArgumentException,UnsupportedOperationException",
        "int closed(int,boolean) throws NoSuchElementException",
        "int window(int,int) throws IllegalArgumentException",
        "int counted(int,int,int) throws IllegalArgumentException",
        "int expected(int,int) throws IllegalArgumentException",
        "int differ(int,int) throws NoSuchElementException,IllegalArgumentException",
        "int search(int,int) throws IllegalArgumentException",
        "boolean exact()",
        "int steps()",
        "int ties()",
        "int often(int) throws NoSuchElementException",
        "int found(int,int) throws NoSuchElementException,IllegalArgumentException",
        "int accept() throws IllegalStateException",
        "int back(int) throws NoSuchElementException,IllegalStateException",
        "int share(int,int) throws IllegalArgumentException,ArithmeticException",
        "int told(int,int) throws NoSuchElementException,IllegalArgumentException",
        "int of(int,int,int) throws IllegalArgumentException",
        "int count(int)",
    };
    private static final Due due = new Due("FaceTest");

    public static void main(String[] args) {
        Class<?> face = ExplainDifference.class;
        due.is("public and final", 1, () -> isPublicAndFinal(face) ? 1 : 0);
        due.same("methods", new TreeSet<>(Arrays.asList(FACE)).toString(), seen(face).toString());
        Constructor<?>[] made = face.getDeclaredConstructors();
        due.is("one constructor", 1, () -> made.length);
        due.is("it is public", 1, () -> Modifier.isPublic(made[0].getModifiers()) ? 1 : 0);
        due.is("it takes nothing", 0, () -> made[0].getParameterCount());
        for (Field f : face.getDeclaredFields()) {
            due.is(f.getName() + " is private", 1,
                    () -> Modifier.isPrivate(f.getModifiers()) ? 1 : 0);
        }
        due.same("private methods with a public one's name", "[]", hiddenNamesakes(face).toString());
        for (Class<?> inside : face.getDeclaredClasses()) {
            due.is(inside.getName() + " is static, not to be seen", 1,
                    () -> isStaticAndHidden(inside) ? 1 : 0);
            due.same(inside.getName() + ", methods with a public one's name", "[]",
                    hiddenNamesakes(inside).toString());
        }
        due.end();
    }

    private static boolean isPublicAndFinal(Class<?> c) {
        return Modifier.isPublic(c.getModifiers()) && Modifier.isFinal(c.getModifiers());
    }

    private static boolean isStaticAndHidden(Class<?> c) {
        int m = c.getModifiers();
        return Modifier.isStatic(m) && !Modifier.isPublic(m) && !Modifier.isProtected(m);
    }

    private static Set<String> seen(Class<?> c) {
        Set<String> all = new TreeSet<>();
        for (Method m : c.getDeclaredMethods()) {
            if (!Modifier.isPrivate(m.getModifiers())) {
                all.add(m.getReturnType() + " " + m.getName() + "(" + names(m.getParameterTypes())
                        + ")" + throwing(m));
            }
        }
        return all;
    }

    private static String throwing(Method m) {
        String named = names(m.getExceptionTypes());
        return named.isEmpty() ? "" : " throws " + named;
    }

    private static String names(Class<?>[] types) {
        StringBuilder all = new StringBuilder();
        for (Class<?> type : types) {
            all.append(all.length() == 0 ? "" : ",").append(type.getSimpleName());
        }
        return all.toString();
    }

    private static Set<String> hiddenNamesakes(Class<?> c) {
        Set<String> names = new TreeSet<>();
        for (Method m : c.getDeclaredMethods()) {
            if (Modifier.isPrivate(m.getModifiers()) && isOfFace(m.getName())) {
                names.add(m.getName());
            }
        }
        return names;
    }

    private static boolean isOfFace(String name) {
        for (String line : FACE) {
            if (line.contains(" " + name + "(")) {
                return true;
            }
        }
        return false;
    }
}
