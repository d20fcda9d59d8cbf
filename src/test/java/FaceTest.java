import java.lang.reflect.Constructor;
import java.lang.reflect.Field;
import java.lang.reflect.Method;
import java.lang.reflect.Modifier;
import java.util.Set;
import java.util.TreeSet;

/** The public face is the document's and no more; nothing else can be seen from outside the class. */
public final class FaceTest {
    private static final Set<String> FACE = Set.of(
        "public static final int BAD = -1000",
        "public static final int FULL = -1001",
        "public static final int NONE = -1002",
        "public IntegerPlan()",
        "public boolean top(int,int)",
        "public boolean goal(int,int,int)",
        "public int rule(int,int,int,int)",
        "public int drop(int)",
        "public int best()",
        "public int point(int)",
        "public int fits()",
        "public boolean solvable()",
        "public int gainTop()",
        "public int gainBottom()",
        "public boolean needless(int)",
        "public int largest(int)");

    private static int wrong = 0;

    public static void main(String[] args) throws Exception {
        Class<?> type = IntegerPlan.class;
        check(type.getModifiers() == (Modifier.PUBLIC | Modifier.FINAL), "the class is public and final");
        check(type.getPackageName().isEmpty(), "the class has no package");
        check(type.getSuperclass() == Object.class && type.getInterfaces().length == 0, "the class extends nothing");
        check(type.getDeclaredClasses().length == 0, "no nested class");
        Set<String> found = face(type);
        check(found.equals(FACE), "the face is " + new TreeSet<>(FACE) + ", found " + found);
        System.out.println(wrong == 0 ? "the face is as due" : wrong + " faults in the face");
        if (wrong != 0) {
            System.exit(1);
        }
    }

    private static void check(boolean right, String what) {
        if (!right) {
            wrong++;
            System.out.println("not so: " + what);
        }
    }

    private static Set<String> face(Class<?> type) throws Exception {
        Set<String> found = new TreeSet<>();
        for (Field field : type.getDeclaredFields()) {
            if (!Modifier.isPrivate(field.getModifiers())) {
                String value = Modifier.isStatic(field.getModifiers()) ? " = " + field.get(null) : "";
                found.add(field.toString().replace("IntegerPlan.", "") + value);
            }
        }
        for (Constructor<?> constructor : type.getDeclaredConstructors()) {
            found.add(constructor.toString());
        }
        for (Method method : type.getDeclaredMethods()) {
            if (!Modifier.isPrivate(method.getModifiers())) {
                found.add(method.toString().replace("IntegerPlan.", ""));
            }
        }
        return found;
    }
}
