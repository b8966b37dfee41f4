import java.lang.reflect.Constructor;
import java.lang.reflect.Field;
import java.lang.reflect.Member;
import java.lang.reflect.Method;
import java.lang.reflect.Modifier;
import java.nio.file.Files;
import java.nio.file.Path;
import java.util.Arrays;
import java.util.HashSet;
import java.util.Set;
import java.util.TreeSet;
import java.util.regex.Matcher;
import java.util.regex.Pattern;

/** The public face of the document, and those rules of LANGUAGE.md that can be seen without a parser. */
public final class SumCheckFace {
    private static final Set<String> FACE = new TreeSet<>(Arrays.asList(
        "HONEST = 0", "FLAT = 1", "STEEP = 2", "IDLE = 0", "ASKING = 1", "ACCEPTED = 2", "REJECTED = 3", "OK = 0", "BAD = -1",
        "FULL = -2", "SumCheck(int)", "int clause(int, int, int)", "int clear(int)", "boolean holds(int, int)", "int count()",
        "int manner(int)", "int start(int)", "int challenge(int)", "int status()", "int round()", "int message(int)",
        "int running()", "int challengeAt(int)", "int extension(int)"));
    private static final Set<Class<?>> TYPES = new HashSet<>(Arrays.asList(
        void.class, int.class, long.class, short.class, byte.class, char.class, boolean.class, int[].class, long[].class,
        short[].class, byte[].class, char[].class, boolean[].class));
    private static int wrong = 0;

    private static void fault(String what) {
        wrong++;
        System.out.println(what);
    }

    public static void main(String[] args) throws Exception {
        face();
        members();
        source(Files.readString(Path.of("src/main/java/SumCheck.java")));
        System.out.println(wrong == 0 ? "the face and the rules are kept" : wrong + " faults");
        if (wrong != 0) {
            System.exit(1);
        }
    }

    private static String list(Class<?>[] types) {
        StringBuilder text = new StringBuilder("(");
        for (Class<?> type : types) {
            text.append(text.length() == 1 ? "" : ", ").append(type.getSimpleName());
        }
        return text.append(")").toString();
    }

    private static boolean isSeen(Member member) {
        return !Modifier.isPrivate(member.getModifiers());
    }

    private static void face() throws Exception {
        Set<String> seen = new TreeSet<>();
        for (Field field : SumCheck.class.getDeclaredFields()) {
            if (isSeen(field)) {
                boolean constant = field.getModifiers() == (Modifier.PUBLIC | Modifier.STATIC | Modifier.FINAL);
                seen.add(constant && field.getType() == int.class ? field.getName() + " = " + field.getInt(null) : field.toString());
            }
        }
        for (Constructor<?> constructor : SumCheck.class.getDeclaredConstructors()) {
            if (isSeen(constructor)) {
                boolean plain = constructor.getModifiers() == Modifier.PUBLIC;
                seen.add(plain ? "SumCheck" + list(constructor.getParameterTypes()) : constructor.toString());
            }
        }
        for (Method method : SumCheck.class.getDeclaredMethods()) {
            if (isSeen(method)) {
                boolean plain = method.getModifiers() == Modifier.PUBLIC;
                String face = method.getReturnType().getSimpleName() + " " + method.getName() + list(method.getParameterTypes());
                seen.add(plain ? face : method.toString());
            }
        }
        if (!seen.equals(FACE)) {
            fault("the face is " + seen + ", due is " + FACE);
        }
        if (SumCheck.class.getModifiers() != (Modifier.PUBLIC | Modifier.FINAL)) {
            fault("the class is not public and final, or more than that");
        }
        if (SumCheck.class.getSuperclass() != Object.class || SumCheck.class.getInterfaces().length != 0) {
            fault("the class stands under another one");
        }
    }

    private static void members() {
        Set<String> publicNames = new HashSet<>();
        for (Method method : SumCheck.class.getDeclaredMethods()) {
            if (isSeen(method)) {
                publicNames.add(method.getName());
            }
        }
        for (Method method : SumCheck.class.getDeclaredMethods()) {
            if (!isSeen(method) && publicNames.contains(method.getName())) {
                fault("rule 1: the private method " + method + " bears a public name");
            }
            if (!TYPES.contains(method.getReturnType()) || !TYPES.containsAll(Arrays.asList(method.getParameterTypes()))) {
                fault("rule 2: " + method);
            }
            if (method.getReturnType().isArray()) {
                fault("rule 4: " + method + " answers an array");
            }
            if (method.getParameterCount() > 7) {
                fault("rule 10: " + method + " takes too many parameters");
            }
        }
        for (Field field : SumCheck.class.getDeclaredFields()) {
            if (!TYPES.contains(field.getType())) {
                fault("rule 2: " + field);
            }
            boolean number = field.getType() == int.class || field.getType() == long.class;
            if (Modifier.isStatic(field.getModifiers()) && !(number && Modifier.isFinal(field.getModifiers()))) {
                fault("rule 5: " + field);
            }
        }
        if (SumCheck.class.getDeclaredClasses().length != 0) {
            fault("rule 1: a nested class");
        }
    }

    private static void source(String text) {
        String code = text.replaceAll("//[^\n]*", "").replaceAll("(?s)/\\*.*?\\*/", "");
        forbid(code, "\\b(package|import|enum|record|interface|float|double|String|Math|Integer|Long|System|Arrays|Object)\\b", "1 to 3");
        forbid(code, "\\b(null|hashCode|equals|toString|getClass|clone)\\b", "3 and 4");
        forbid(code, "\\b(throw|throws|try|catch|finally|synchronized|assert|instanceof)\\b|->|::|\"", "6");
        forbid(code, "\\[\\s*\\]\\s*\\[", "2");
        // Rule 10: a call of the class's own methods may not stand among another's arguments.
        forbid(code, "\\b(?!(?:if|for|while|switch|return)\\b)[A-Za-z]\\w*\\([^();{}]*\\b(?!(?:int|long)\\b)[A-Za-z]\\w*\\(", "10");
        Matcher arrays = Pattern.compile("(.*)\\bnew\\b(.*)").matcher(code);
        while (arrays.find()) {
            boolean field = arrays.group(1).startsWith("    private final ");
            if (!field || !arrays.group(2).matches(" (int|long)\\[([A-Z_]+|[1-9][0-9]*)\\];")) {
                fault("rule 4: " + arrays.group());
            }
        }
    }

    private static void forbid(String code, String pattern, String rule) {
        Matcher found = Pattern.compile(pattern).matcher(code);
        while (found.find()) {
            fault("rule " + rule + ": " + found.group());
        }
    }
}
