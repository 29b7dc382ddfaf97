import java.lang.reflect.Constructor;
import java.lang.reflect.Field;
import java.lang.reflect.Method;
import java.lang.reflect.Modifier;
import java.util.Set;
import java.util.TreeSet;

/** The public face is the document's, with nothing missing and nothing more. */
public final class FaceTest {
    public static void main(String[] args) {
        Check check = new Check();
        check.part("constants");
        check.due("OK", BehindStore.OK, 0);
        check.due("NONE", BehindStore.NONE, -1);
        check.due("FULL", BehindStore.FULL, -2);
        check.due("CONFLICT", BehindStore.CONFLICT, -3);
        check.due("BUSY", BehindStore.BUSY, -4);

        check.part("face");
        Set<String> want = Set.of(
            "public static final int OK", "public static final int NONE",
            "public static final int FULL", "public static final int CONFLICT",
            "public static final int BUSY", "public BehindStore()",
            "public int begin()", "public int write(int,int,int)", "public int read(int,int)",
            "public int commit(int)", "public int abort(int)", "public int seal()",
            "public int flush(int)", "public int stepsLeft()", "public void crash()",
            "public int commits()", "public int durable()", "public int value(int)",
            "public int safeValue(int)", "public int conflicts(int)", "public int open()");
        Set<String> got = visibleMembers();
        check.isTrue("members " + got + " are " + new TreeSet<>(want), got.equals(want));
        check.isTrue("public final class BehindStore",
            BehindStore.class.toGenericString().equals("public final class BehindStore"));
        check.isTrue("extends nothing", BehindStore.class.getSuperclass() == Object.class);
        check.due("interfaces", BehindStore.class.getInterfaces().length, 0);
        check.end();
    }

    private static Set<String> visibleMembers() {
        Set<String> names = new TreeSet<>();
        for (Field field : BehindStore.class.getDeclaredFields()) {
            if (!Modifier.isPrivate(field.getModifiers())) {
                names.add(field.toString().replace("BehindStore.", ""));
            }
        }
        for (Constructor<?> made : BehindStore.class.getDeclaredConstructors()) {
            if (!Modifier.isPrivate(made.getModifiers())) {
                names.add(made.toString());
            }
        }
        for (Method method : BehindStore.class.getDeclaredMethods()) {
            if (!Modifier.isPrivate(method.getModifiers())) {
                names.add(method.toString().replace("BehindStore.", ""));
            }
        }
        return names;
    }
}
