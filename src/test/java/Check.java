import java.util.Objects;

/** Compares answers with those that are due, prints the others, and ends the test. */
final class Check {
    private final String test;
    private int asked;
    private int wrong;

    Check(String test) {
        this.test = test;
    }

    void due(String call, Object got, Object want) {
        asked++;
        if (!Objects.equals(got, want)) {
            wrong++;
            System.out.println(test + ": " + call + " answered " + got + ", due is " + want);
        }
    }

    int wrong() {
        return wrong;
    }

    /** The call is to throw just this exception, and to change nothing that can be seen. */
    void throwing(String call, Class<? extends RuntimeException> want, CompostKeys x, Runnable run) {
        long before = x.digest();
        Class<?> got = null;
        try {
            run.run();
        } catch (RuntimeException e) {
            got = e.getClass();
        }
        due(call + " throws", got, want);
        due("digest() behind " + call, x.digest(), before);
    }

    void noIndex(String call, CompostKeys x, Runnable run) {
        throwing(call, IndexOutOfBoundsException.class, x, run);
    }

    void noArgument(String call, CompostKeys x, Runnable run) {
        throwing(call, IllegalArgumentException.class, x, run);
    }

    void noState(String call, CompostKeys x, Runnable run) {
        throwing(call, IllegalStateException.class, x, run);
    }

    void end() {
        System.out.println(test + ": " + asked + " answers, " + wrong + " not as due");
        if (wrong != 0 || asked == 0) {
            System.exit(1);
        }
    }

    static void write(CompostKeys x, String text) {
        for (int i = 0; i < text.length(); i++) {
            x.append(text.charAt(i));
        }
    }

    static int run(CompostKeys x, String text) {
        write(x, text);
        return x.run();
    }

    /** An object whose kind has given all its sixteen keys. */
    static CompostKeys allGiven(int kind) {
        CompostKeys x = new CompostKeys();
        for (int key = 0; key < 16; key++) {
            x.ask(kind);
        }
        return x;
    }

    static void deleteAll(CompostKeys x, int kind, int... keys) {
        for (int key : keys) {
            x.delete(kind, key);
        }
    }
}
