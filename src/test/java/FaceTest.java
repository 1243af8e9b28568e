import java.lang.reflect.Constructor;
import java.lang.reflect.Field;
import java.lang.reflect.Member;
import java.lang.reflect.Method;
import java.lang.reflect.Modifier;
import java.util.Arrays;
import java.util.Set;
import java.util.TreeSet;

/** The members of the class: the document's face, and nothing else that can be seen. */
public final class FaceTest {
    private static final Set<String> FACE = new TreeSet<>(Arrays.asList(
        "int BAD", "int FULL", "int MANY", "int TAKEN", "long NONE",
        "new(int)",
        "int write(int, int)", "int read(int)", "int discard(int)", "int snapshot(int)",
        "int revert(int)", "int delete(int)", "long readOld(int, int)", "int overlay()",
        "int commit()", "int grow(int)", "int size()", "int images()", "int used()",
        "int word(int, int)", "boolean stage(int, int, int, int, int)", "int load()"));

    private static final Checks CHECKS = new Checks("FaceTest");

    public static void main(String[] args) {
        Class<?> program = LayeredImage.class;
        CHECKS.hold("the class is public and final",
            Modifier.isPublic(program.getModifiers()) && Modifier.isFinal(program.getModifiers()));
        Set<String> seen = face(program);
        CHECKS.hold("the face is " + FACE + ", and not " + seen, seen.equals(FACE));
        fields(program);
        names(program, program);
        Class<?>[] inside = program.getDeclaredClasses();
        CHECKS.hold("twelve classes at most", inside.length < 12);
        for (Class<?> other : inside) {
            CHECKS.hold(other + " is static", Modifier.isStatic(other.getModifiers()));
            CHECKS.hold(other + " is not to be seen",
                !Modifier.isPublic(other.getModifiers()) && !Modifier.isProtected(other.getModifiers()));
            CHECKS.hold(other + " holds no class", other.getDeclaredClasses().length == 0);
            fields(other);
            names(program, other);
        }
        CHECKS.end();
    }

    private static boolean counts(Member member) {
        return !Modifier.isPrivate(member.getModifiers()) && !member.isSynthetic();
    }

    private static Set<String> face(Class<?> program) {
        Set<String> seen = new TreeSet<>();
        for (Field field : program.getDeclaredFields()) {
            if (counts(field)) {
                CHECKS.hold(field + " is a public constant",
                    Modifier.isPublic(field.getModifiers()) && Modifier.isStatic(field.getModifiers()));
                seen.add(field.getType() + " " + field.getName());
            }
        }
        for (Constructor<?> made : program.getDeclaredConstructors()) {
            if (counts(made)) {
                CHECKS.hold(made + " is public", Modifier.isPublic(made.getModifiers()));
                seen.add("new" + types(made.getParameterTypes()));
            }
        }
        for (Method method : program.getDeclaredMethods()) {
            if (counts(method)) {
                CHECKS.hold(method + " is public", Modifier.isPublic(method.getModifiers())
                    && !Modifier.isStatic(method.getModifiers()));
                seen.add(method.getReturnType() + " " + method.getName()
                    + types(method.getParameterTypes()));
            }
        }
        return seen;
    }

    private static String types(Class<?>[] types) {
        return Arrays.toString(types).replace('[', '(').replace(']', ')');
    }

    /** Rules 5 and 11: static fields are constants, and an object has twenty fields at most. */
    private static void fields(Class<?> type) {
        int own = 0;
        for (Field field : type.getDeclaredFields()) {
            if (Modifier.isStatic(field.getModifiers())) {
                CHECKS.hold(field + " is a constant", Modifier.isFinal(field.getModifiers())
                    && (field.getType().isPrimitive() || field.getType() == String.class));
            } else {
                own++;
            }
        }
        CHECKS.hold(type + " has twenty fields at most", own <= 20);
    }

    /** Rule 1: no other method bears the name of one of the face. */
    private static void names(Class<?> program, Class<?> type) {
        for (Method method : type.getDeclaredMethods()) {
            for (Method face : program.getMethods()) {
                CHECKS.hold(method + " has a name of its own",
                    method.equals(face) || !method.getName().equals(face.getName()));
            }
            CHECKS.hold(method + " takes seven at most", method.getParameterCount() <= 7);
        }
    }
}
