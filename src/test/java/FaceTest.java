import java.lang.reflect.Constructor;
import java.lang.reflect.Field;
import java.lang.reflect.Member;
import java.lang.reflect.Method;
import java.lang.reflect.Modifier;
import java.util.Set;
import java.util.TreeSet;

/** The public face, to the letter, and nothing else that can be seen from outside. */
public final class FaceTest {
    private static final String[] FACE = {
        "final int BAD", "final int NO", "final int FULL", "FunctionRows()",
        "int type(long, int)", "int text(int)", "int whole(long)", "int leaf(int, int)",
        "int call(int, int, int, int)", "int takes(int)", "int run(int)", "long number()", "int tag()",
        "int letter(int)", "int give(int)", "int drop(int)", "int uses(int)", "int depth(int)",
        "int clear()", "int size()"
    };

    public static void main(String[] args) {
        Check.due("BAD", FunctionRows.BAD, -1);
        Check.due("NO", FunctionRows.NO, -2);
        Check.due("FULL", FunctionRows.FULL, -3);
        Set<String> seen = new TreeSet<>();
        for (Field f : FunctionRows.class.getDeclaredFields()) {
            if (isSeen(f)) {
                seen.add((Modifier.isFinal(f.getModifiers()) ? "final " : "") + f.getType() + " " + f.getName());
            }
        }
        for (Constructor<?> c : FunctionRows.class.getDeclaredConstructors()) {
            if (isSeen(c)) {
                seen.add("FunctionRows" + parameters(c.getParameterTypes()));
            }
        }
        for (Method m : FunctionRows.class.getDeclaredMethods()) {
            if (isSeen(m)) {
                seen.add(m.getReturnType() + " " + m.getName() + parameters(m.getParameterTypes()));
            }
        }
        Check.due("the face", String.join("; ", seen), String.join("; ", new TreeSet<>(Set.of(FACE))));
        Check.due("public final", FunctionRows.class.getModifiers(), Modifier.PUBLIC | Modifier.FINAL);
        for (Class<?> inside : FunctionRows.class.getDeclaredClasses()) {
            Check.due(inside.getName() + " static", Modifier.isStatic(inside.getModifiers()) ? 1 : 0, 1);
        }
        Check.end();
    }

    private static boolean isSeen(Member m) {
        return !Modifier.isPrivate(m.getModifiers()) && !m.isSynthetic();
    }

    private static String parameters(Class<?>[] types) {
        StringBuilder all = new StringBuilder("(");
        for (Class<?> t : types) {
            all.append(all.length() > 1 ? ", " : "").append(t);
        }
        return all.append(")").toString();
    }
}
