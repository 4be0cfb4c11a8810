import java.lang.reflect.Constructor;
import java.lang.reflect.Field;
import java.lang.reflect.Method;
import java.lang.reflect.Modifier;
import java.util.ArrayList;
import java.util.Arrays;
import java.util.List;
import java.util.TreeSet;

// The members that can be seen from outside are those of the document's face and no other.
public final class FaceTests {
    private static final String[] FACE = {
        "public static final int BAD_QUEUE = -1",
        "public static final int BAD_CONSUMER = -2",
        "public static final int BAD_NUMBER = -3",
        "public static final int FULL = -4",
        "public static final int EMPTY = -5",
        "public static final int NOT_OUT = -6",
        "public static final int BUSY = -7",
        "public static final int READY = 0",
        "public static final int OUT = 1",
        "public static final int DONE = 2",
        "public static final int DEAD = 3",
        "public LeasedMessages()",
        "public int publish(int, int, int, int)",
        "public int take(int, int)",
        "public int acknowledge(int, int)",
        "public int refuse(int, int)",
        "public int lose(int)",
        "public int renew(int, int)",
        "public int pass(int)",
        "public int tune(int, int, int)",
        "public int revive(int)",
        "public void clear()",
        "public int state(int)",
        "public int ready(int)",
        "public int peek(int, int)",
        "public int nextDeadline()",
        "public int sum(int)",
    };

    private static int wrong = 0;

    public static void main(String[] args) throws IllegalAccessException {
        TreeSet<String> wanted = new TreeSet<>(Arrays.asList(FACE));
        TreeSet<String> found = new TreeSet<>(visibleMembers());
        for (String member : wanted) {
            check(found.contains(member), "missing: " + member);
        }
        for (String member : found) {
            check(wanted.contains(member), "not in the face: " + member);
        }
        check(Modifier.isPublic(LeasedMessages.class.getModifiers()), "the class is not public");
        check(Modifier.isFinal(LeasedMessages.class.getModifiers()), "the class is not final");
        check(LeasedMessages.class.getDeclaredClasses().length == 0, "there is a nested class");
        checkStaticFields();
        if (wrong > 0) {
            System.exit(1);
        }
    }

    private static void check(boolean holds, String otherwise) {
        if (!holds) {
            wrong++;
            System.out.println(otherwise);
        }
    }

    private static List<String> visibleMembers() throws IllegalAccessException {
        List<String> members = new ArrayList<>();
        for (Field field : LeasedMessages.class.getDeclaredFields()) {
            if (!Modifier.isPrivate(field.getModifiers())) {
                Object value = Modifier.isStatic(field.getModifiers()) ? field.get(null) : "of an object";
                members.add(Modifier.toString(field.getModifiers()) + " " + field.getType().getSimpleName()
                        + " " + field.getName() + " = " + value);
            }
        }
        for (Constructor<?> constructor : LeasedMessages.class.getDeclaredConstructors()) {
            if (!Modifier.isPrivate(constructor.getModifiers())) {
                members.add(Modifier.toString(constructor.getModifiers()) + " LeasedMessages"
                        + parameters(constructor.getParameterTypes()));
            }
        }
        for (Method method : LeasedMessages.class.getDeclaredMethods()) {
            if (!Modifier.isPrivate(method.getModifiers())) {
                members.add(Modifier.toString(method.getModifiers()) + " " + method.getReturnType().getSimpleName()
                        + " " + method.getName() + parameters(method.getParameterTypes()));
            }
        }
        return members;
    }

    private static String parameters(Class<?>[] types) {
        List<String> names = new ArrayList<>();
        for (Class<?> type : types) {
            names.add(type.getSimpleName());
        }
        return "(" + String.join(", ", names) + ")";
    }

    private static void checkStaticFields() {
        for (Field field : LeasedMessages.class.getDeclaredFields()) {
            if (Modifier.isStatic(field.getModifiers())) {
                boolean number = field.getType() == int.class || field.getType() == long.class;
                check(number && Modifier.isFinal(field.getModifiers()), "no constant: " + field.getName());
            }
        }
    }
}
