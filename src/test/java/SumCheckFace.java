import java.lang.reflect.Constructor;
import java.lang.reflect.Field;
import java.lang.reflect.Member;
import java.lang.reflect.Method;
import java.lang.reflect.Modifier;
import java.util.Arrays;
import java.util.Set;
import java.util.TreeSet;

/** The public face of the document: all its constants with their values, its constructor and methods, and nothing more. */
public final class SumCheckFace {
    private static final Set<String> FACE = new TreeSet<>(Arrays.asList(
        "HONEST = 0", "FLAT = 1", "STEEP = 2", "IDLE = 0", "ASKING = 1", "ACCEPTED = 2", "REJECTED = 3", "OK = 0", "BAD = -1",
        "FULL = -2", "SumCheck(int)", "int clause(int, int, int)", "int clear(int)", "boolean holds(int, int)", "int count()",
        "int manner(int)", "int start(int)", "int challenge(int)", "int status()", "int round()", "int message(int)",
        "int running()", "int challengeAt(int)", "int extension(int)"));
    private static int wrong = 0;

    private static void fault(String what) {
        wrong++;
        System.out.println(what);
    }

    public static void main(String[] args) throws Exception {
        face();
        System.out.println(wrong == 0 ? "the face is the document's" : wrong + " faults");
        if (wrong != 0) {
            System.exit(1);
        }
    }

    private static String list(Class<?>[] types) {
        StringBuilder text = new StringBuilder("(");
        for (Class<?> type : types) {
            text.append(text.length() == 1 ? "" : ", ").append(type.getSimpleName());
        }
        return text.append(")").toString();
    }

    private static boolean isSeen(Member member) {
        return !Modifier.isPrivate(member.getModifiers());
    }

    private static void face() throws Exception {
        Set<String> seen = new TreeSet<>();
        for (Field field : SumCheck.class.getDeclaredFields()) {
            if (isSeen(field)) {
                boolean constant = field.getModifiers() == (Modifier.PUBLIC | Modifier.STATIC | Modifier.FINAL);
                seen.add(constant && field.getType() == int.class ? field.getName() + " = " + field.getInt(null) : field.toString());
            }
        }
        for (Constructor<?> constructor : SumCheck.class.getDeclaredConstructors()) {
            if (isSeen(constructor)) {
                boolean plain = constructor.getModifiers() == Modifier.PUBLIC;
                seen.add(plain ? "SumCheck" + list(constructor.getParameterTypes()) : constructor.toString());
            }
        }
        for (Method method : SumCheck.class.getDeclaredMethods()) {
            if (isSeen(method)) {
                boolean plain = method.getModifiers() == Modifier.PUBLIC;
                String face = method.getReturnType().getSimpleName() + " " + method.getName() + list(method.getParameterTypes());
                seen.add(plain ? face : method.toString());
            }
        }
        if (!seen.equals(FACE)) {
            fault("the face is " + seen + ", due is " + FACE);
        }
        if (SumCheck.class.getModifiers() != (Modifier.PUBLIC | Modifier.FINAL)) {
            fault("the class is not public and final, or more than that");
        }
        if (SumCheck.class.getSuperclass() != Object.class || SumCheck.class.getInterfaces().length != 0) {
            fault("the class stands under another one");
        }
    }
}
