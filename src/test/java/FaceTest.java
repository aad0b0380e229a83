import java.lang.reflect.Constructor;
import java.lang.reflect.Field;
import java.lang.reflect.Method;
import java.lang.reflect.Modifier;
import java.util.Arrays;
import java.util.TreeSet;

/** The public face, and those rules of LANGUAGE.md that reflection can see. */
public final class FaceTest {
    private static final Due due = new Due("FaceTest");
    private static final String[] FACE = {
        "boolean key(int, boolean)", "boolean cost(int, int)", "int draft(int, long)", "int grammar()",
        "int slot(int, int, int)", "int clear()", "int fit(int, int, int)", "int best(int)", "int parse()",
        "long readings()", "int price(int)", "int node(int, int, int)", "int nodes(int)", "int chord(int, int)",
        "int cadence(int)", "int melody(int, int)", "long cell(int, int, int)", "int told(int)"};

    public static void main(String[] args) throws NoSuchMethodException {
        Class<?> face = ChordGrammars.class;
        due.same("NONE", ChordGrammars.NONE, -1);
        due.yes("public final", Modifier.isPublic(face.getModifiers()) && Modifier.isFinal(face.getModifiers()));
        members(face);
        noOtherNames(face);
        due.yes("cell tells its exception", Arrays.equals(
            face.getMethod("cell", int.class, int.class, int.class).getExceptionTypes(),
            new Class<?>[] {ArrayIndexOutOfBoundsException.class}));
        due.end();
    }

    private static void members(Class<?> face) {
        TreeSet<String> seen = new TreeSet<>();
        for (Method m : face.getDeclaredMethods()) {
            if (Modifier.isPublic(m.getModifiers())) {
                String types = Arrays.toString(m.getParameterTypes()).replace("[", "(").replace("]", ")");
                seen.add(m.getReturnType() + " " + m.getName() + types);
            } else {
                due.yes("private: " + m, Modifier.isPrivate(m.getModifiers()));
            }
        }
        due.yes("the face's methods: " + seen, seen.equals(new TreeSet<>(Arrays.asList(FACE))));
        for (Field f : face.getDeclaredFields()) {
            boolean isNone = f.getName().equals("NONE") && Modifier.isPublic(f.getModifiers());
            due.yes("private: " + f, isNone || Modifier.isPrivate(f.getModifiers()));
        }
        for (Constructor<?> c : face.getDeclaredConstructors()) {
            due.yes("public, without arguments: " + c, Modifier.isPublic(c.getModifiers()) && c.getParameterCount() == 0);
        }
    }

    private static void noOtherNames(Class<?> face) {
        TreeSet<String> names = new TreeSet<>();
        for (String method : FACE) {
            names.add(method.substring(method.indexOf(' ') + 1, method.indexOf('(')));
        }
        for (Method m : face.getDeclaredMethods()) {
            due.no("no name of the face: " + m, Modifier.isPrivate(m.getModifiers()) && names.contains(m.getName()));
        }
        due.yes("some twelve classes", face.getDeclaredClasses().length <= 13);
        for (Class<?> inside : face.getDeclaredClasses()) {
            due.yes("static: " + inside, Modifier.isStatic(inside.getModifiers()));
            due.no("not public: " + inside, Modifier.isPublic(inside.getModifiers()));
            long fields = Arrays.stream(inside.getDeclaredFields()).filter(f -> !Modifier.isStatic(f.getModifiers())).count();
            due.yes("some twenty fields: " + inside, fields <= 22);
            for (Method m : inside.getDeclaredMethods()) {
                due.no("no name of the face: " + m, Modifier.isPrivate(m.getModifiers()) && names.contains(m.getName()));
                due.yes("at most seven parameters: " + m, m.getParameterCount() <= 7);
            }
        }
    }
}
