import java.lang.reflect.Constructor;
import java.lang.reflect.Field;
import java.lang.reflect.Method;
import java.lang.reflect.Modifier;
import java.util.Set;
import java.util.TreeSet;

// The public face of the document: its constants and their values, its constructor, its methods, and nothing beside them.
public final class FaceTest {
    private static final Set<String> FACE = Set.of(
        "int add(int, int, int)", "int remove()", "int set(int, int, int)", "int swap(int, int)", "int rows()",
        "int rank()", "int divisor(int)", "int shape(int)", "boolean has(int, int, int)",
        "int order(int, int, int)", "int step(int)", "int corner(int, int)", "int count(int)",
        "boolean spare(int)", "int shortest()", "int shortestPoints()");

    private static final Set<String> CONSTANTS = Set.of("int BAD_ARG = -1", "int FULL = -2", "int NONE = -1000000");

    private static int wrong = 0;

    private static void due(String what, boolean holds) {
        if (!holds) {
            wrong++;
            System.out.println("does not hold: " + what);
        }
    }

    private static String signature(Method m) {
        StringBuilder text = new StringBuilder(m.getReturnType() + " " + m.getName() + "(");
        for (int i = 0; i < m.getParameterCount(); i++) {
            text.append(i == 0 ? "" : ", ").append(m.getParameterTypes()[i]);
        }
        return text.append(")").toString();
    }

    private static void methods() {
        Set<String> seen = new TreeSet<>();
        Set<String> names = new TreeSet<>();
        for (Method m : IntegerGrids.class.getDeclaredMethods()) {
            due("seven parameters at most: " + m, m.getParameterCount() <= 7);
            if (!Modifier.isPrivate(m.getModifiers())) {
                due("public and of the object: " + m,
                    Modifier.isPublic(m.getModifiers()) && !Modifier.isStatic(m.getModifiers()));
                seen.add(signature(m));
                names.add(m.getName());
            }
        }
        due("the methods are those of the face: " + seen, seen.equals(new TreeSet<>(FACE)));
        for (Method m : IntegerGrids.class.getDeclaredMethods()) {
            due("a public name is not private too: " + m,
                !Modifier.isPrivate(m.getModifiers()) || !names.contains(m.getName()));
        }
    }

    private static void fields() throws IllegalAccessException {
        Set<String> seen = new TreeSet<>();
        for (Field f : IntegerGrids.class.getDeclaredFields()) {
            int modifiers = f.getModifiers();
            if (!Modifier.isPrivate(modifiers)) {
                due("a public constant: " + f, Modifier.isPublic(modifiers) && Modifier.isStatic(modifiers));
                seen.add(f.getType() + " " + f.getName() + " = " + f.get(null));
            }
            if (Modifier.isStatic(modifiers)) {
                due("a static field is a constant of int or long: " + f, Modifier.isFinal(modifiers)
                    && (f.getType() == int.class || f.getType() == long.class));
            }
        }
        due("the constants are those of the face: " + seen, seen.equals(CONSTANTS));
    }

    private static void shapeOfTheClass() {
        Class<?> face = IntegerGrids.class;
        due("the class is public and final",
            Modifier.isPublic(face.getModifiers()) && Modifier.isFinal(face.getModifiers()));
        due("no nested class", face.getDeclaredClasses().length == 0);
        due("nothing comes from above", face.getSuperclass() == Object.class && face.getInterfaces().length == 0);
        due("no package", face.getPackageName().isEmpty());
        Constructor<?>[] made = face.getDeclaredConstructors();
        due("one public constructor without parameters", made.length == 1
            && Modifier.isPublic(made[0].getModifiers()) && made[0].getParameterCount() == 0
            && made[0].getExceptionTypes().length == 0);
    }

    public static void main(String[] args) throws Exception {
        shapeOfTheClass();
        methods();
        fields();
        if (wrong != 0) {
            System.exit(1);
        }
    }
}
