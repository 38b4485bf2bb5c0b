import java.lang.reflect.Constructor;
import java.lang.reflect.Field;
import java.lang.reflect.Method;
import java.lang.reflect.Modifier;
import java.util.Arrays;
import java.util.Set;
import java.util.TreeSet;

/** The public face of the document, and rule 1 of the language. */
public final class FaceTest {
    private static final String[] FACE = {
        "int put(int,int,int,int)", "int take(int,int,int,int)", "int move(int,int,int,int,int)",
        "int closed(int,boolean)", "int window(int,int)", "int counted(int,int,int)",
        "int expected(int,int)", "int differ(int,int)", "int search(int,int)", "boolean exact()",
        "int steps()", "int ties()", "int often(int)", "int found(int,int)", "int accept()",
        "int back(int)", "int share(int,int)", "int told(int,int)", "int of(int,int,int)",
        "int count(int)",
    };
    private static final Due due = new Due("FaceTest");

    public static void main(String[] args) {
        Class<?> face = ExplainDifference.class;
        due.is("public and final", 1, () -> isPublicAndFinal(face) ? 1 : 0);
        due.same("methods", new TreeSet<>(Arrays.asList(FACE)).toString(), seen(face).toString());
        Constructor<?>[] made = face.getDeclaredConstructors();
        due.is("one constructor", 1, () -> made.length);
        due.is("it is public", 1, () -> Modifier.isPublic(made[0].getModifiers()) ? 1 : 0);
        due.is("it takes nothing", 0, () -> made[0].getParameterCount());
        for (Field f : face.getDeclaredFields()) {
            due.is(f.getName() + " is private", 1,
                    () -> Modifier.isPrivate(f.getModifiers()) ? 1 : 0);
        }
        due.same("private methods with a public one's name", "[]", hiddenNamesakes(face).toString());
        due.end();
    }

    private static boolean isPublicAndFinal(Class<?> c) {
        return Modifier.isPublic(c.getModifiers()) && Modifier.isFinal(c.getModifiers());
    }

    private static Set<String> seen(Class<?> c) {
        Set<String> all = new TreeSet<>();
        for (Method m : c.getDeclaredMethods()) {
            if (!Modifier.isPrivate(m.getModifiers())) {
                String types = Arrays.toString(m.getParameterTypes())
                        .replace("[", "").replace("]", "").replace(" ", "");
                all.add(m.getReturnType() + " " + m.getName() + "(" + types + ")");
            }
        }
        return all;
    }

    private static Set<String> hiddenNamesakes(Class<?> c) {
        Set<String> names = new TreeSet<>();
        for (Method m : c.getDeclaredMethods()) {
            if (Modifier.isPrivate(m.getModifiers()) && isOfFace(m.getName())) {
                names.add(m.getName());
            }
        }
        return names;
    }

    private static boolean isOfFace(String name) {
        for (String line : FACE) {
            if (line.contains(" " + name + "(")) {
                return true;
            }
        }
        return false;
    }
}
