import java.lang.reflect.Constructor;
import java.lang.reflect.Field;
import java.lang.reflect.Method;
import java.lang.reflect.Modifier;
import java.util.Set;
import java.util.TreeSet;

/** "The public face" of the document and LANGUAGE.md rule 1: these members and no others. */
public final class FaceTest {
    private static final String I = " IndexOutOfBoundsException";
    private static final String A = " IllegalArgumentException";
    private static final String S = " IllegalStateException";

    private static final String[] METHODS = {
        "int ask 1" + I, "int want 2" + I, "int delete 2" + I + S, "int bringBack 2" + I + S,
        "int turn 1" + I, "int follow 3" + I + A, "int pass 1" + A + S, "int season 2" + I + A,
        "int set 2" + I + A, "int append 1" + A + S, "int clearBuffer 0", "int firstError 0",
        "int run 0" + A, "int keep 1" + A, "int goBack 1" + A + S, "int undo 0" + S,
        "int keyOf 3" + I + A, "int kindOf 2" + I + A, "int pile 2" + I + A, "int count 1" + A,
        "int setting 1" + I, "int ifAsked 1" + I, "int keyIn 1" + I, "int coming 2" + I + A,
        "int longest 1" + I, "int ifFollowed 3" + I + A, "int scarcest 0", "double ripeShare 0",
        "float meanAge 1" + I, "long digest 0",
    };

    public static void main(String[] args) {
        Check check = new Check("FaceTest");
        Set<String> want = new TreeSet<>(Set.of(METHODS));
        Set<String> names = new TreeSet<>();
        Set<String> got = new TreeSet<>();
        for (Method method : CompostKeys.class.getDeclaredMethods()) {
            if (!Modifier.isPrivate(method.getModifiers())) {
                got.add(signature(check, method));
                names.add(method.getName());
            }
        }
        check.due("the methods", got, want);
        for (Method method : CompostKeys.class.getDeclaredMethods()) {
            boolean hidden = Modifier.isPrivate(method.getModifiers());
            check.due(method + " bears a public name", hidden && names.contains(method.getName()), false);
        }
        check.due("the class is", Modifier.toString(CompostKeys.class.getModifiers()), "public final");
        dueFields(check);
        Constructor<?>[] constructors = CompostKeys.class.getDeclaredConstructors();
        check.due("constructors", constructors.length, 1);
        check.due("the constructor", constructors[0].toString(), "public CompostKeys()");
        check.due("NONE", CompostKeys.NONE, -1);
        check.end();
    }

    private static String signature(Check check, Method method) {
        check.due(method + " is", Modifier.toString(method.getModifiers()), "public");
        StringBuilder text = new StringBuilder(method.getReturnType() + " " + method.getName());
        text.append(' ').append(method.getParameterCount());
        for (Class<?> parameter : method.getParameterTypes()) {
            check.due("a parameter of " + method, parameter, int.class);
        }
        for (Class<?> thrown : method.getExceptionTypes()) {
            text.append(' ').append(thrown.getSimpleName());
        }
        return text.toString();
    }

    private static void dueFields(Check check) {
        for (Field field : CompostKeys.class.getDeclaredFields()) {
            boolean hidden = Modifier.isPrivate(field.getModifiers());
            check.due(field + " is seen", !hidden, field.getName().equals("NONE"));
            boolean loose = Modifier.isStatic(field.getModifiers())
                    && !Modifier.isFinal(field.getModifiers());
            check.due(field + " is static and not final", loose, false);
        }
    }
}
