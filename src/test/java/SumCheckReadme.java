import java.lang.reflect.Method;
import java.nio.file.Files;
import java.nio.file.Path;
import java.util.HashSet;
import java.util.Set;
import java.util.regex.Matcher;
import java.util.regex.Pattern;

/** README.md's example: each of its calls answers what its comment begins with, and every call of the class is shown. */
public final class SumCheckReadme {
    private static final Pattern MADE = Pattern.compile("SumCheck s = new SumCheck\\((\\d+)\\); .*");
    private static final Pattern CALL = Pattern.compile("s\\.(\\w+)\\((.*)\\); +// (-?\\w+).*");
    private static int wrong = 0;

    public static void main(String[] args) throws Exception {
        String text = Files.readString(Path.of("README.md"));
        int begin = text.indexOf("```java\n") + "```java\n".length();
        example(text.substring(begin, text.indexOf("```", begin)));
        System.out.println(wrong == 0 ? "the example holds" : wrong + " faults");
        if (wrong != 0) {
            System.exit(1);
        }
    }

    private static void fault(String what) {
        wrong++;
        System.out.println(what);
    }

    private static void example(String lines) throws Exception {
        SumCheck s = null;
        Set<String> shown = new HashSet<>();
        for (String line : lines.split("\n")) {
            Matcher made = MADE.matcher(line);
            Matcher call = CALL.matcher(line);
            if (made.matches()) {
                s = new SumCheck(Integer.parseInt(made.group(1)));
            } else if (call.matches()) {
                shown.add(call.group(1));
                Object got = answer(s, call.group(1), call.group(2));
                if (!got.toString().equals(due(call.group(3), got))) {
                    fault(line + " answered " + got);
                }
            } else if (!line.isBlank()) {
                fault("not a line that this test can read: " + line);
            }
        }
        for (Method method : SumCheck.class.getMethods()) {
            if (method.getDeclaringClass() == SumCheck.class && !shown.contains(method.getName())) {
                fault(method.getName() + " is not shown");
            }
        }
    }

    private static Object answer(SumCheck s, String name, String arguments) throws Exception {
        String[] words = arguments.isEmpty() ? new String[0] : arguments.split(", ");
        Object[] values = new Object[words.length];
        for (int i = 0; i < words.length; i++) {
            values[i] = number(words[i]);
        }
        for (Method method : SumCheck.class.getMethods()) {
            if (method.getName().equals(name) && method.getParameterCount() == values.length) {
                return method.invoke(s, values);
            }
        }
        return "nothing, as there is no such call";
    }

    private static int number(String word) throws Exception {
        if (word.startsWith("SumCheck.")) {
            return SumCheck.class.getField(word.substring("SumCheck.".length())).getInt(null);
        }
        return word.startsWith("0b") ? Integer.parseInt(word.substring(2), 2) : Integer.parseInt(word);
    }

    /** A boolean or a number stands for itself, a name in capitals for the constant. */
    private static String due(String word, Object got) throws Exception {
        boolean named = got instanceof Integer && Character.isUpperCase(word.charAt(0));
        return named ? String.valueOf(SumCheck.class.getField(word).getInt(null)) : word;
    }
}
