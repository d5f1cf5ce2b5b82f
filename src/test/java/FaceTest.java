import java.lang.reflect.Constructor;
import java.lang.reflect.Field;
import java.lang.reflect.Method;
import java.lang.reflect.Modifier;
import java.util.Arrays;
import java.util.Set;
import java.util.TreeSet;

/** The public face, and the rules of LANGUAGE.md that can be seen from outside the class. */
final class FaceTest {
    private static final String[] FACE = {
        "put(int, int)", "set(int, int, int)", "empty(int)", "store(int)", "token(int, int)", "drop()",
        "clear()", "size(int)", "input(int, int)", "sort()", "length()", "result(int)", "mixture()",
    };

    public static void main(String[] args) {
        Class<?> face = VectorLanes.class;
        Due.is("public", Modifier.isPublic(face.getModifiers()) ? 1 : 0, 1);
        Due.is("final", Modifier.isFinal(face.getModifiers()) ? 1 : 0, 1);
        Due.is("nested classes", face.getDeclaredClasses().length, 0);
        constructors(face);
        methods(face);
        fields(face);
        Due.end("FaceTest");
    }

    private static void constructors(Class<?> face) {
        Constructor<?>[] found = face.getDeclaredConstructors();
        Due.is("constructors", found.length, 1);
        Due.is("constructor is public", Modifier.isPublic(found[0].getModifiers()) ? 1 : 0, 1);
        Due.is("constructor's parameters", found[0].getParameterCount(), 0);
    }

    private static void methods(Class<?> face) {
        Set<String> seen = new TreeSet<>();
        Set<String> publicNames = new TreeSet<>();
        for (String one : FACE) {
            publicNames.add(one.substring(0, one.indexOf('(')));
        }
        for (Method m : face.getDeclaredMethods()) {
            if (Modifier.isPrivate(m.getModifiers())) {
                Due.is("private " + m.getName() + " has a public name", publicNames.contains(m.getName()) ? 1 : 0, 0);
                continue;
            }
            String parameters = Arrays.toString(m.getParameterTypes());
            seen.add(m.getName() + "(" + parameters.substring(1, parameters.length() - 1) + ")");
            Due.is(m.getName() + " is public, of the object, and answers int",
                m.getModifiers() == Modifier.PUBLIC && m.getReturnType() == int.class ? 1 : 0, 1);
        }
        Set<String> wanted = new TreeSet<>(Arrays.asList(FACE));
        Due.is("methods " + seen + " against " + wanted, seen.equals(wanted) ? 1 : 0, 1);
    }

    private static void fields(Class<?> face) {
        for (Field f : face.getDeclaredFields()) {
            Due.is("field " + f.getName() + " is private", Modifier.isPrivate(f.getModifiers()) ? 1 : 0, 1);
            if (Modifier.isStatic(f.getModifiers())) {
                Due.is("static " + f.getName() + " is a constant number",
                    Modifier.isFinal(f.getModifiers()) && (f.getType() == int.class || f.getType() == long.class) ? 1 : 0, 1);
            }
        }
    }
}
