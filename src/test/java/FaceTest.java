import java.lang.reflect.Constructor;
import java.lang.reflect.Field;
import java.lang.reflect.Method;
import java.lang.reflect.Modifier;
import java.nio.file.Files;
import java.nio.file.Path;
import java.util.Set;
import java.util.TreeSet;
import java.util.regex.Matcher;
import java.util.regex.Pattern;

/** The public face is the document's and no more, and the source keeps to the rules that a text search can see. */
public final class FaceTest {
    private static final Set<String> FACE = Set.of(
        "public static final int BAD",
        "public static final int FULL",
        "public static final int NONE",
        "public IntegerPlan()",
        "public boolean top(int,int)",
        "public boolean goal(int,int,int)",
        "public int rule(int,int,int,int)",
        "public int drop(int)",
        "public int best()",
        "public int point(int)",
        "public int fits()",
        "public boolean solvable()",
        "public int gainTop()",
        "public int gainBottom()",
        "public boolean needless(int)",
        "public int largest(int)");

    private static final String BANNED = "\\b(import|package|float|double|String|Math|Integer|Long|System|Arrays|Object"
        + "|null|throws?|try|catch|finally|synchronized|assert|instanceof|protected|class|interface|enum|record|var)\\b|->|::";

    private static int wrong = 0;

    public static void main(String[] args) throws Exception {
        Class<?> type = IntegerPlan.class;
        check(type.getModifiers() == (Modifier.PUBLIC | Modifier.FINAL), "the class is public and final");
        check(type.getSuperclass() == Object.class && type.getInterfaces().length == 0, "the class extends nothing");
        check(type.getDeclaredClasses().length == 0, "no nested class");
        face(type);
        members(type);
        source();
        System.out.println(wrong == 0 ? "the face is as due" : wrong + " faults in the face");
        if (wrong != 0) {
            System.exit(1);
        }
    }

    private static void check(boolean right, String what) {
        if (!right) {
            wrong++;
            System.out.println("not so: " + what);
        }
    }

    private static void face(Class<?> type) {
        Set<String> found = new TreeSet<>();
        for (Field field : type.getDeclaredFields()) {
            if (!Modifier.isPrivate(field.getModifiers())) {
                found.add(field.toString().replace("IntegerPlan.", ""));
            }
        }
        for (Constructor<?> constructor : type.getDeclaredConstructors()) {
            found.add(constructor.toString());
        }
        for (Method method : type.getDeclaredMethods()) {
            if (!Modifier.isPrivate(method.getModifiers())) {
                found.add(method.toString().replace("IntegerPlan.", ""));
            }
        }
        check(found.equals(FACE), "the face is " + new TreeSet<>(FACE) + ", found " + found);
    }

    private static void members(Class<?> type) {
        Set<String> open = new TreeSet<>();
        for (Method method : type.getDeclaredMethods()) {
            if (Modifier.isPublic(method.getModifiers())) {
                open.add(method.getName());
            }
            check(method.getParameterCount() <= 7, method.getName() + " has at most seven parameters");
        }
        for (Method method : type.getDeclaredMethods()) {
            check(Modifier.isPublic(method.getModifiers()) || !open.contains(method.getName()),
                "no private method is named as a public one: " + method.getName());
        }
        int fields = 0;
        for (Field field : type.getDeclaredFields()) {
            if (Modifier.isStatic(field.getModifiers())) {
                check(Modifier.isFinal(field.getModifiers()) && (field.getType() == int.class || field.getType() == long.class),
                    "a static field is a constant: " + field.getName());
            } else {
                fields++;
            }
        }
        check(fields <= 40, "at most forty fields");
    }

    private static void source() throws Exception {
        String text = Files.readString(Path.of("src/main/java/IntegerPlan.java"));
        String code = text.replaceAll("(?s)/\\*.*?\\*/", "").replaceAll("//[^\n]*", "")
            .replaceFirst("public final class IntegerPlan", "");
        Matcher banned = Pattern.compile(BANNED).matcher(code);
        while (banned.find()) {
            check(false, "the source does without " + banned.group());
        }
        Matcher made = Pattern.compile("\\bnew\\b").matcher(code);
        Matcher madeInField = Pattern.compile("(?m)^    private final \\w+\\[\\] \\w+ = new \\w+\\[\\w+\\];$").matcher(code);
        check(made.results().count() == madeInField.results().count(), "arrays are made in field initialisers alone");
    }
}
