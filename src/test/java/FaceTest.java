import java.lang.reflect.Constructor;
import java.lang.reflect.Field;
import java.lang.reflect.Method;
import java.lang.reflect.Modifier;
import java.util.Arrays;
import java.util.TreeSet;

/** The class has the document's face and no other member that can be seen from outside. */
public final class FaceTest {
    private static final String[] FACE = {"int letters(long)", "int blank()", "int fault()", "int net()",
        "int lane(int,int)", "int status()", "int begin(int)", "int take(int)", "int back()", "int whose(int)", "int by(int)",
        "int answer(int)", "int lost()", "int ways()", "int parting(int)", "int mend(int)", "int bought(int)",
        "int likely(int,int)", "int player(int)", "int as(int,int)", "int move(int,int)", "int game(int,int,int,int)",
        "int image()", "int restore()", "int count(int)", "long digest()"};

    public static void main(String[] args) {
        Check check = new Check("FaceTest");
        Class<?> face = CutsOrFast.class;
        check.due("public and final", Modifier.isPublic(face.getModifiers()) && Modifier.isFinal(face.getModifiers()));
        TreeSet<String> found = new TreeSet<>();
        for (Method m : face.getDeclaredMethods()) {
            if (!Modifier.isPrivate(m.getModifiers()) && !m.isSynthetic()) {
                check.due("a public method of an object: " + m, m.getModifiers() == Modifier.PUBLIC);
                found.add(m.toString().replace("CutsOrFast.", "").replace("public ", ""));
            }
        }
        check.due("the methods: " + found, found.equals(new TreeSet<>(Arrays.asList(FACE))));
        TreeSet<String> constants = new TreeSet<>();
        for (Field f : face.getDeclaredFields()) {
            if (!Modifier.isPrivate(f.getModifiers())) {
                check.due("a constant: " + f, f.toString().startsWith("public static final int "));
                constants.add(f.getName());
            }
        }
        check.due("the constants", constants.toString().equals("[FULL, NONE, OUTSIDE, STATE, UNKNOWN]"));
        Constructor<?>[] made = face.getDeclaredConstructors();
        check.due("one constructor", made.length == 1 && made[0].getParameterCount() == 0
            && Modifier.isPublic(made[0].getModifiers()));
        check.due("classes", face.getDeclaredClasses().length <= 11);
        for (Class<?> inside : face.getDeclaredClasses()) {
            check.due("static: " + inside, Modifier.isStatic(inside.getModifiers()));
            check.due("not public: " + inside, !Modifier.isPublic(inside.getModifiers()));
        }
        check.due("NONE", CutsOrFast.NONE, -1);
        check.due("UNKNOWN", CutsOrFast.UNKNOWN, -101);
        check.due("OUTSIDE", CutsOrFast.OUTSIDE, -102);
        check.due("STATE", CutsOrFast.STATE, -103);
        check.due("FULL", CutsOrFast.FULL, -104);
        check.end();
    }
}
