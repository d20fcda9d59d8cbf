import java.lang.reflect.Method;
import java.lang.reflect.Modifier;
import java.nio.file.Files;
import java.nio.file.Path;
import java.util.Set;
import java.util.TreeSet;
import java.util.regex.Matcher;
import java.util.regex.Pattern;

/** Makes the calls of the example in README.md: each answers what stands beside it, and every call of the face is there. */
public final class ReadmeTest {
    private static final Pattern CALL = Pattern.compile("plan\\.(\\w+)\\(([^)]*)\\); +// (-?\\w+)(:.*)?");

    private static final IntegerPlan PLAN = new IntegerPlan();
    private static final Set<String> SHOWN = new TreeSet<>();

    private static int wrong = 0;

    public static void main(String[] args) throws Exception {
        String[] parts = Files.readString(Path.of("README.md")).split("```");
        String example = parts[1];
        for (String line : example.split("\n")) {
            if (line.startsWith("plan")) {
                checkLine(line);
            }
        }
        Set<String> face = new TreeSet<>();
        for (Method method : IntegerPlan.class.getDeclaredMethods()) {
            if (Modifier.isPublic(method.getModifiers())) {
                face.add(method.getName());
            }
        }
        check(SHOWN.equals(face), "the example shows " + SHOWN + ", the face has " + face);
        System.out.println(wrong == 0 ? "the example is right" : wrong + " faults in the example");
        if (wrong != 0) {
            System.exit(1);
        }
    }

    private static void check(boolean right, String what) {
        if (!right) {
            wrong++;
            System.out.println("README.md: " + what);
        }
    }

    private static void checkLine(String line) throws Exception {
        Matcher call = CALL.matcher(line);
        if (!call.matches()) {
            check(false, "not a call with its answer: " + line);
            return;
        }
        String name = call.group(1);
        SHOWN.add(name);
        String got = answer(name, call.group(2));
        check(got.equals(due(call.group(3))), line + " answered " + got);
    }

    private static String answer(String name, String arguments) throws Exception {
        String[] words = arguments.isEmpty() ? new String[0] : arguments.split(", ");
        Class<?>[] types = new Class<?>[words.length];
        Object[] numbers = new Object[words.length];
        for (int n = 0; n < words.length; n++) {
            types[n] = int.class;
            numbers[n] = Integer.valueOf(words[n]);
        }
        return IntegerPlan.class.getMethod(name, types).invoke(PLAN, numbers).toString();
    }

    private static String due(String word) throws Exception {
        boolean isCode = word.equals("BAD") || word.equals("FULL") || word.equals("NONE");
        return isCode ? IntegerPlan.class.getField(word).get(null).toString() : word;
    }
}
