import java.lang.reflect.Constructor;
import java.lang.reflect.Field;
import java.lang.reflect.Method;
import java.lang.reflect.Modifier;
import java.util.Arrays;
import java.util.Set;
import java.util.TreeSet;

/** The public face: just the members that the document lists. */
public final class FaceTest {
    private static final String[] METHODS = {
        "int type(int, int)", "int wipe(int)", "int undo(int)", "int fault(int)", "int line(int)",
        "int hole(int, int)", "int printed(int, int)", "int move(int, int)", "int cough(int, int)",
        "int dark(int)", "int back(int)", "int read(int)", "int step(int, int)",
        "int whispers(int, int)", "int drift(int)", "int round()", "int often(int, int)",
        "int may(int, int)", "int prompt(int, int, int, int)", "int seen(int, int)",
        "int forget()", "int filed()", "int coughed(int)", "int ask(int)",
        "long slips(int, int, int, int, int)", "int evening(int, int, int)",
        "int sheet(int, int, int)", "int lose(int)", "int lay(int, int, int, int)",
        "int get(int, int, int)", "int copy(int, int, int, int, int)", "int write(int, int)",
        "int count(int)", "long digest()"
    };

    public static void main(String[] args) throws Exception {
        Check check = new Check("FaceTest");
        Class<?> c = PromptHoles.class;
        check.holds("public and final", Modifier.isPublic(c.getModifiers()) && Modifier.isFinal(c.getModifiers()));
        Set<String> face = new TreeSet<>();
        Set<String> publicNames = new TreeSet<>();
        for (Method m : c.getDeclaredMethods()) {
            if (Modifier.isPrivate(m.getModifiers())) {
                continue;
            }
            check.holds("public, not static: " + m, m.getModifiers() == Modifier.PUBLIC);
            face.add(shape(m));
            publicNames.add(m.getName());
        }
        Set<String> want = new TreeSet<>(Arrays.asList(METHODS));
        check.holds("methods " + face, face.equals(want));
        Set<String> fields = new TreeSet<>();
        for (Field f : c.getDeclaredFields()) {
            if (!Modifier.isPrivate(f.getModifiers())) {
                fields.add(f.toString() + " = " + f.getInt(null));
            }
        }
        check.holds("constants " + fields, fields.equals(new TreeSet<>(Arrays.asList(
            constant("NONE", -1), constant("BAD", -2), constant("NOT", -3), constant("FULL", -4)))));
        Constructor<?>[] made = c.getDeclaredConstructors();
        check.due("constructors", made.length, 1);
        check.holds("public PromptHoles()", made[0].getModifiers() == Modifier.PUBLIC && made[0].getParameterCount() == 0);
        namesApart(check, c, publicNames);
        check.end();
    }

    /** LANGUAGE.md 1: no private method bears the name of a public one. */
    private static void namesApart(Check check, Class<?> c, Set<String> publicNames) {
        for (Method m : c.getDeclaredMethods()) {
            if (Modifier.isPrivate(m.getModifiers())) {
                check.holds("a name of its own: " + m, !publicNames.contains(m.getName()));
            }
        }
        for (Class<?> inside : c.getDeclaredClasses()) {
            check.holds("static: " + inside, Modifier.isStatic(inside.getModifiers()));
            for (Method m : inside.getDeclaredMethods()) {
                check.holds("a name of its own: " + m, !publicNames.contains(m.getName()));
                check.holds("seven parameters at most: " + m, m.getParameterCount() <= 7);
            }
        }
    }

    private static String shape(Method m) {
        String types = Arrays.toString(Arrays.stream(m.getParameterTypes()).map(Class::getName).toArray());
        return m.getReturnType().getName() + " " + m.getName() + "(" + types.substring(1, types.length() - 1) + ")";
    }

    private static String constant(String name, int value) {
        return "public static final int PromptHoles." + name + " = " + value;
    }
}
