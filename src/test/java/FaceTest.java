import java.lang.reflect.Constructor;
import java.lang.reflect.Field;
import java.lang.reflect.Member;
import java.lang.reflect.Method;
import java.lang.reflect.Modifier;
import java.util.Arrays;
import java.util.List;
import java.util.TreeSet;

/** The public face: every member of the document's, and no other that can be seen from outside. */
public final class FaceTest {
    private static final List<String> METHODS = List.of(
        "int family(int, long)", "int any()", "int constant(int, int)", "int built(int, int, int)",
        "int name(int, int)", "int push(int, int)", "int record(int)", "int rule(int)", "int clear()",
        "int forget()", "int grow()", "int run(int)", "int looks(int)", "int first(int)",
        "boolean fits(int)", "int ends(int)", "int depth()", "int missing(long, int)", "int count(int)");

    private FaceTest() {
    }

    public static void main(String[] args) {
        Check check = new Check();
        check.about("the face");
        Class<RuleTree> face = RuleTree.class;
        check.due("public final", face.getModifiers() & (Modifier.PUBLIC | Modifier.FINAL),
            Modifier.PUBLIC | Modifier.FINAL);
        TreeSet<String> methods = new TreeSet<>();
        TreeSet<String> hidden = new TreeSet<>();
        for (Method method : face.getDeclaredMethods()) {
            if (isHidden(method)) {
                hidden.add(method.getName());
            } else {
                methods.add(written(method));
                check.due(method + " is public, no more", method.getModifiers(), Modifier.PUBLIC);
            }
        }
        check.due("methods " + methods, methods.equals(new TreeSet<>(METHODS)), true);
        for (Method method : face.getMethods()) {
            check.due("a private method named " + method.getName(), hidden.contains(method.getName()), false);
        }
        TreeSet<String> fields = new TreeSet<>();
        for (Field field : face.getDeclaredFields()) {
            if (!isHidden(field)) {
                fields.add(field.getName());
                check.due(field + " is a public constant", field.getModifiers(),
                    Modifier.PUBLIC | Modifier.STATIC | Modifier.FINAL);
            }
        }
        check.due("fields " + fields, fields.equals(new TreeSet<>(List.of("FULL", "NONE", "STUCK"))), true);
        for (Constructor<?> constructor : face.getDeclaredConstructors()) {
            check.due(constructor + " takes", constructor.getParameterCount(), 0);
            check.due(constructor + " is public", constructor.getModifiers(), Modifier.PUBLIC);
        }
        for (Class<?> inner : face.getDeclaredClasses()) {
            check.due(inner + " is static", Modifier.isStatic(inner.getModifiers()), true);
            check.due(inner + " is seen from outside",
                inner.getModifiers() & (Modifier.PUBLIC | Modifier.PROTECTED), 0);
        }
        check.due("NONE", RuleTree.NONE, -1);
        check.due("FULL", RuleTree.FULL, -2);
        check.due("STUCK", RuleTree.STUCK, -3);
        check.end();
    }

    private static boolean isHidden(Member member) {
        return Modifier.isPrivate(member.getModifiers());
    }

    private static String written(Method method) {
        String types = Arrays.toString(method.getParameterTypes());
        return method.getReturnType() + " " + method.getName() + "(" + types.substring(1, types.length() - 1) + ")";
    }
}
