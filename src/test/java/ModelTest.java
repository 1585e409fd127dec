import java.lang.reflect.InvocationTargetException;
import java.lang.reflect.Method;
import java.util.Arrays;
import java.util.Random;

/** Long runs of calls, the same in every session, on the class and on the model. */
public final class ModelTest {
    private static final int RUNS = 1500;
    // A text of six orders is at most 35 characters, beside four other calls.
    private static final int LONGEST_STEP = 40;
    private static final int CALLS = 512 - LONGEST_STEP;

    private static final Check CHECK = new Check("ModelTest");
    private static final String[] DEEDS = {
        "ask", "ask", "ask", "want", "want", "delete", "delete", "delete", "delete", "bringBack",
        "turn", "follow", "pass", "pass", "season", "set", "keep", "goBack", "undo", "firstError",
        "clearBuffer", "run", "append",
    };
    private static final String[] LOOKS = {
        "digest", "digest", "digest", "keyOf", "kindOf", "pile", "count", "setting", "ifAsked",
        "keyIn", "coming", "coming", "longest", "ifFollowed", "scarcest", "ripeShare", "meanAge",
    };

    private final int run;
    private final Random random;
    private final int keys;
    private final int kinds;
    private final int days;
    private final CompostKeys real = new CompostKeys();
    private final Model model = new Model();
    private int calls;

    private ModelTest(int run) {
        this.run = run;
        random = new Random(run);
        keys = new int[] {2, 4, 16}[run % 3];
        kinds = run % 4 + 1;
        days = run % 5 == 0 ? 99 : 4;
    }

    public static void main(String[] args) throws Exception {
        for (int run = 0; run < RUNS; run++) {
            new ModelTest(run).go();
            if (CHECK.wrong() > 0) {
                break;
            }
        }
        CHECK.end();
    }

    private void go() throws Exception {
        if (days == 99) {
            toTheLastDay();
        }
        if (run % 2 == 1) {
            giveAll();
        }
        // Behind an answer that is not due the two may differ in everything.
        while (calls < CALLS && CHECK.wrong() == 0) {
            if (random.nextInt(12) == 0) {
                writeOrders();
            } else {
                call(DEEDS[random.nextInt(DEEDS.length)]);
            }
            call(LOOKS[random.nextInt(LOOKS.length)]);
        }
    }

    /** Most arguments are good ones, from a part of the range that the run often meets. */
    private int argument(String name, int place) {
        if (random.nextInt(40) == 0) {
            return random.nextInt(8) == 0 ? random.nextInt() : random.nextInt(24) - 4;
        }
        switch (name) {
            case "pass":
                return 1 + random.nextInt(days);
            case "set":
                return place == 0 ? random.nextInt(3) : random.nextInt(5);
            case "append":
                return "abdpt0123456789.;".charAt(random.nextInt(17));
            case "keep":
            case "goBack":
                return random.nextInt(2);
            case "count":
                return random.nextInt(10);
            case "setting":
                return random.nextInt(3);
            default:
                return rowArgument(name, place);
        }
    }

    private int rowArgument(String name, int place) {
        if (place == 0) {
            return random.nextInt(kinds);
        }
        switch (name) {
            case "season":
                return random.nextInt(6);
            case "kindOf":
                return random.nextInt(11);
            case "pile":
                return random.nextInt(17);
            case "coming":
                return 1 + random.nextInt(16);
            default:
                return place == 1 ? random.nextInt(keys) : lastArgument(name);
        }
    }

    private int lastArgument(String name) {
        return name.equals("keyOf") ? random.nextInt(5) : 1 + random.nextInt(4);
    }

    private void call(String name) throws Exception {
        for (Method method : CompostKeys.class.getMethods()) {
            if (!method.getName().equals(name)) {
                continue;
            }
            Object[] values = new Object[method.getParameterCount()];
            for (int i = 0; i < values.length; i++) {
                values[i] = argument(name, i);
            }
            call(method, values);
        }
    }

    private void call(Method method, Object... values) throws Exception {
        calls++;
        Method due = Model.class.getMethod(method.getName(), method.getParameterTypes());
        CHECK.due("run " + run + ", call " + calls + ": " + method.getName()
                + Arrays.toString(values), answer(real, method, values), answer(model, due, values));
    }

    private static Object answer(Object object, Method method, Object[] values) throws Exception {
        try {
            return method.invoke(object, values);
        } catch (InvocationTargetException e) {
            return e.getCause().getClass();
        }
    }

    private void writeOrders() throws Exception {
        Method append = CompostKeys.class.getMethod("append", int.class);
        call("clearBuffer");
        StringBuilder text = new StringBuilder();
        for (int orders = 1 + random.nextInt(6); orders > 0; orders--) {
            char verb = "aaddbpt".charAt(random.nextInt(7));
            text.append(text.length() == 0 ? "" : ";").append(verb);
            text.append(verb == 't' ? 1 + random.nextInt(days) : random.nextInt(kinds));
            text.append(verb == 'd' || verb == 'b' ? "." + random.nextInt(keys) : "");
        }
        for (int i = 0; i < text.length(); i++) {
            call(append, (int) text.charAt(i));
        }
        call("firstError");
        call("run");
    }

    /** Without fresh keys, what comes next is a matter of the pile. */
    private void giveAll() throws Exception {
        Method ask = CompostKeys.class.getMethod("ask", int.class);
        for (int i = 0; i < 16 * kinds; i++) {
            call(ask, i % kinds);
        }
    }

    private void toTheLastDay() throws Exception {
        Method pass = CompostKeys.class.getMethod("pass", int.class);
        for (int i = 0; i < 100; i++) {
            call(pass, 99);
        }
    }
}
