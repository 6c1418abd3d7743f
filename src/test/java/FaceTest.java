import java.lang.reflect.Constructor;
import java.lang.reflect.Field;
import java.lang.reflect.Member;
import java.lang.reflect.Method;
import java.lang.reflect.Modifier;
import java.util.Arrays;
import java.util.Set;
import java.util.TreeSet;

// The class has the public face of the document and shows nothing else (LANGUAGE.md, rules 1, 2 and 5).
public final class FaceTest {
    private static final Set<String> FACE = new TreeSet<>(Arrays.asList(
        "public static final int BAD",
        "public static final int NONE",
        "public TimerWheel()",
        "public int set(int,int,int)",
        "public int cancel(int)",
        "public int pass(int)",
        "public int toNext()",
        "public int now()",
        "public int timers()",
        "public int left(int)",
        "public int next()",
        "public int within(int)",
        "public int rings()",
        "public int rung(int)",
        "public int rungAt(int)",
        "public boolean repeat(int,int)",
        "public int period(int)"));
    private static final Set<Class<?>> TYPES = Set.of(int.class, long.class, short.class, byte.class, char.class,
        boolean.class, int[].class, long[].class, short[].class, byte[].class, char[].class, boolean[].class);

    private static int wrong = 0;

    public static void main(String[] args) {
        Class<?> type = TimerWheel.class;
        check(type.getModifiers() == (Modifier.PUBLIC | Modifier.FINAL), "the class is public and final, no more");
        check(type.getSuperclass() == Object.class && type.getInterfaces().length == 0, "the class extends nothing");
        check(type.getDeclaredClasses().length == 0, "there is no nested class");
        check(shown(type).equals(FACE), "the face is " + FACE + ", but found " + shown(type));
        checkFields(type);
        checkPrivateNames(type);
        System.out.println(wrong == 0 ? "the face is as due" : wrong + " faults in the face");
        if (wrong != 0) {
            System.exit(1);
        }
    }

    private static void check(boolean holds, String what) {
        if (!holds) {
            wrong++;
            System.out.println("broken: " + what);
        }
    }

    private static Set<String> shown(Class<?> type) {
        Set<String> shown = new TreeSet<>();
        for (Field field : type.getDeclaredFields()) {
            if (!isPrivate(field)) {
                shown.add(field.toString().replace("TimerWheel.", ""));
            }
        }
        for (Method method : type.getDeclaredMethods()) {
            if (!isPrivate(method)) {
                shown.add(method.toString().replace("TimerWheel.", ""));
            }
        }
        for (Constructor<?> constructor : type.getDeclaredConstructors()) {
            if (!isPrivate(constructor)) {
                shown.add(constructor.toString());
            }
        }
        return shown;
    }

    private static boolean isPrivate(Member member) {
        return Modifier.isPrivate(member.getModifiers());
    }

    private static void checkFields(Class<?> type) {
        for (Field field : type.getDeclaredFields()) {
            check(TYPES.contains(field.getType()), "type of field " + field.getName());
            if (Modifier.isStatic(field.getModifiers())) {
                boolean constant = Modifier.isFinal(field.getModifiers())
                    && (field.getType() == int.class || field.getType() == long.class);
                check(constant, "static field " + field.getName() + " is a constant of int or long");
            }
        }
    }

    private static void checkPrivateNames(Class<?> type) {
        for (Method method : type.getDeclaredMethods()) {
            if (isPrivate(method)) {
                boolean clash = FACE.stream().anyMatch(face -> face.contains(" " + method.getName() + "("));
                check(!clash, "private method " + method.getName() + " bears the name of a public one");
            }
        }
    }
}
