import java.util.ArrayList;
import java.util.List;
import java.util.Objects;
import java.util.function.Consumer;
import java.util.function.Supplier;

/** Compares answers with those that are due, prints the others, and ends the test. */
final class Check {
    static final Class<IndexOutOfBoundsException> INDEX = IndexOutOfBoundsException.class;
    static final Class<IllegalArgumentException> ARGUMENT = IllegalArgumentException.class;
    static final Class<IllegalStateException> STATE = IllegalStateException.class;
    /** Numbers far below and far above every range. */
    static final int MIN = Integer.MIN_VALUE;
    static final int MAX = Integer.MAX_VALUE;

    private final String test;
    private String sentence = "";
    private int asked;
    private int wrong;

    Check(String test) {
        this.test = test;
    }

    /** The sentence of the document that the answers from here on are about. */
    void sentence(String words) {
        sentence = " [" + words + "]";
    }

    void due(String call, Object got, Object want) {
        asked++;
        if (!Objects.equals(got, want)) {
            wrong++;
            System.out.println(test + sentence + ": " + call + " answered " + got + ", due is "
                    + want);
        }
    }

    int wrong() {
        return wrong;
    }

    /** The call is to throw just this exception, and to change nothing that can be seen. */
    void throwing(String call, Class<? extends RuntimeException> want, CompostKeys x, Runnable run) {
        long before = x.digest();
        due(call + " throws", thrown(run), want);
        due("digest() behind " + call, x.digest(), before);
    }

    void noIndex(String call, CompostKeys x, Runnable run) {
        throwing(call, INDEX, x, run);
    }

    void noArgument(String call, CompostKeys x, Runnable run) {
        throwing(call, ARGUMENT, x, run);
    }

    void noState(String call, CompostKeys x, Runnable run) {
        throwing(call, STATE, x, run);
    }

    /** What the call throws; null if it answers. */
    static Class<?> thrown(Runnable run) {
        try {
            run.run();
            return null;
        } catch (RuntimeException e) {
            return e.getClass();
        }
    }

    /** The call throws just this exception, and all, what was saved and kept too, is as before. */
    void refuses(String call, Class<? extends RuntimeException> want, Supplier<CompostKeys> made,
            Consumer<CompostKeys> deed) {
        CompostKeys x = made.get();
        due(call + " throws", thrown(() -> deed.accept(x)), want);
        due("all behind " + call, trail(x), trail(made.get()));
    }

    /** The call answers, and all, what was saved and kept too, is as before. */
    void leaves(String call, Supplier<CompostKeys> made, Consumer<CompostKeys> deed) {
        refuses(call, null, made, deed);
    }

    /** The call answers and saves the state from before it, as one. */
    void saves(String call, Supplier<CompostKeys> made, Consumer<CompostKeys> deed) {
        CompostKeys x = made.get();
        int before = x.count(9);
        due(call + " throws", thrown(() -> deed.accept(x)), null);
        due("count(9) behind " + call, x.count(9), before + 1);
        due("undo() of " + call, x.undo(), before);
        due("all behind undo() of " + call, trail(x), trail(made.get()));
    }

    /** What can be seen of all that a call may change; 18 calls at the most. */
    static List<Long> trail(CompostKeys x) {
        List<Long> trail = new ArrayList<>();
        trail.add(x.digest());
        for (int left = x.count(9); left > 0; left--) {
            trail.add((long) x.undo());
            trail.add(x.digest());
        }
        trail.add(behindGoBack(x, 0));
        trail.add(behindGoBack(x, 1));
        return trail;
    }

    private static Long behindGoBack(CompostKeys x, int slot) {
        try {
            x.goBack(slot);
            return x.digest();
        } catch (IllegalStateException e) {
            return null;
        }
    }

    void end() {
        System.out.println(test + ": " + asked + " answers, " + wrong + " not as due");
        if (wrong != 0 || asked == 0) {
            System.exit(1);
        }
    }

    static CompostKeys write(CompostKeys x, String text) {
        for (int i = 0; i < text.length(); i++) {
            x.append(text.charAt(i));
        }
        return x;
    }

    static int run(CompostKeys x, String text) {
        return write(x, text).run();
    }

    /** An object whose kind has given all its sixteen keys. */
    static CompostKeys allGiven(int kind) {
        CompostKeys x = new CompostKeys();
        for (int key = 0; key < 16; key++) {
            x.ask(kind);
        }
        return x;
    }

    static CompostKeys deleteAll(CompostKeys x, int kind, int... keys) {
        for (int key : keys) {
            x.delete(kind, key);
        }
        return x;
    }

    /** An object whose kind has worn out all its sixteen keys. */
    static CompostKeys allWornOut(int kind) {
        CompostKeys x = allGiven(kind);
        x.set(1, 1);
        return deleteAll(x, kind, 0, 1, 2, 3, 4, 5, 6, 7, 8, 9, 10, 11, 12, 13, 14, 15);
    }

    /** The same object, on the day. */
    static CompostKeys onDay(CompostKeys x, int day) {
        for (int left = day - x.count(0); left > 0; left -= 99) {
            x.pass(Math.min(99, left));
        }
        return x;
    }
}
