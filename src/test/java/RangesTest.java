import java.util.List;
import java.util.function.Consumer;
import java.util.function.Supplier;

/** Each range that a promise names, just inside and just outside, and each throws clause. */
public final class RangesTest {
    private static final Check CHECK = new Check("RangesTest");
    private static final int[] NO_KIND = {-1, 4, Check.MIN, Check.MAX};
    private static final int[] NO_KEY = {-1, 16, Check.MIN, Check.MAX};

    public static void main(String[] args) {
        noSuchKind();
        noSuchKindNamedFirst();
        noSuchKey();
        noSuchKeyNamedFirst();
        noSuchSetting();
        argumentsOutOfRange();
        argumentNamedBeforeState();
        statesThatRefuse();
        insideOfTheRanges();
        CHECK.end();
    }

    /** Something in every part: 0 alive, 1 in the pile for 4 days, 2 worn out, slot 1, a buffer. */
    private static CompostKeys busy() {
        CompostKeys x = new CompostKeys();
        Check.run(x, "a0;a0;a0;a3;d0.1;t4");
        x.keep(1);
        x.set(1, 1);
        x.delete(0, 2);
        return Check.write(x, "a0;d~");
    }

    /** The last day, six saved states, both slots and a full buffer. */
    private static CompostKeys full() {
        CompostKeys x = busy();
        x.keep(0);
        return Check.write(Check.onDay(x, 9999), "p0;".repeat(18) + "0");
    }

    private static void refuses(String call, Class<? extends RuntimeException> want,
            Consumer<CompostKeys> deed) {
        for (Supplier<CompostKeys> made : List.<Supplier<CompostKeys>>of(
                CompostKeys::new, RangesTest::busy, RangesTest::full)) {
            CHECK.refuses(call, want, made, deed);
        }
    }

    private static void noSuchKind() {
        CHECK.sentence("IndexOutOfBoundsException if there is no such kind");
        for (int bad : NO_KIND) {
            refuses("ask(" + bad + ")", Check.INDEX, x -> x.ask(bad));
            refuses("want(" + bad + ", 0)", Check.INDEX, x -> x.want(bad, 0));
            refuses("turn(" + bad + ")", Check.INDEX, x -> x.turn(bad));
            refuses("follow(" + bad + ", 0, 1)", Check.INDEX, x -> x.follow(bad, 0, 1));
            refuses("season(" + bad + ", 5)", Check.INDEX, x -> x.season(bad, 5));
            refuses("keyOf(" + bad + ", 0, 0)", Check.INDEX, x -> x.keyOf(bad, 0, 0));
            refuses("kindOf(" + bad + ", 0)", Check.INDEX, x -> x.kindOf(bad, 0));
            refuses("pile(" + bad + ", 0)", Check.INDEX, x -> x.pile(bad, 0));
            refuses("ifAsked(" + bad + ")", Check.INDEX, x -> x.ifAsked(bad));
            refuses("keyIn(" + bad + ")", Check.INDEX, x -> x.keyIn(bad));
            refuses("coming(" + bad + ", 1)", Check.INDEX, x -> x.coming(bad, 1));
            refuses("longest(" + bad + ")", Check.INDEX, x -> x.longest(bad));
            refuses("ifFollowed(" + bad + ", 0, 1)", Check.INDEX, x -> x.ifFollowed(bad, 0, 1));
            refuses("meanAge(" + bad + ")", Check.INDEX, x -> x.meanAge(bad));
        }
    }

    private static void noSuchKindNamedFirst() {
        CHECK.sentence("If several apply, the one that is named first: no such kind");
        for (int bad : NO_KIND) {
            refuses("want(" + bad + ", -1)", Check.INDEX, x -> x.want(bad, -1));
            refuses("delete(" + bad + ", 0)", Check.INDEX, x -> x.delete(bad, 0));
            refuses("bringBack(" + bad + ", 0)", Check.INDEX, x -> x.bringBack(bad, 0));
            refuses("follow(" + bad + ", 0, 0)", Check.INDEX, x -> x.follow(bad, 0, 0));
            refuses("season(" + bad + ", -1)", Check.INDEX, x -> x.season(bad, -1));
            refuses("season(" + bad + ", 100)", Check.INDEX, x -> x.season(bad, 100));
            refuses("keyOf(" + bad + ", 0, 5)", Check.INDEX, x -> x.keyOf(bad, 0, 5));
            refuses("kindOf(" + bad + ", 11)", Check.INDEX, x -> x.kindOf(bad, 11));
            refuses("kindOf(" + bad + ", -1)", Check.INDEX, x -> x.kindOf(bad, -1));
            refuses("pile(" + bad + ", -1)", Check.INDEX, x -> x.pile(bad, -1));
            refuses("coming(" + bad + ", 0)", Check.INDEX, x -> x.coming(bad, 0));
            refuses("coming(" + bad + ", 17)", Check.INDEX, x -> x.coming(bad, 17));
            refuses("ifFollowed(" + bad + ", 0, 0)", Check.INDEX, x -> x.ifFollowed(bad, 0, 0));
        }
    }

    private static void noSuchKey() {
        CHECK.sentence("IndexOutOfBoundsException if there is no such kind or key");
        for (int bad : NO_KEY) {
            for (int kind : new int[] {0, 3}) {
                String row = "(" + kind + ", " + bad;
                refuses("want" + row + ")", Check.INDEX, x -> x.want(kind, bad));
                refuses("follow" + row + ", 1)", Check.INDEX, x -> x.follow(kind, bad, 1));
                refuses("keyOf" + row + ", 0)", Check.INDEX, x -> x.keyOf(kind, bad, 0));
                refuses("ifFollowed" + row + ", 1)", Check.INDEX,
                        x -> x.ifFollowed(kind, bad, 1));
            }
        }
    }

    private static void noSuchKeyNamedFirst() {
        CHECK.sentence("If several apply, the one that is named first: no such key");
        for (int bad : NO_KEY) {
            refuses("delete(0, " + bad + ")", Check.INDEX, x -> x.delete(0, bad));
            refuses("delete(3, " + bad + ")", Check.INDEX, x -> x.delete(3, bad));
            refuses("bringBack(0, " + bad + ")", Check.INDEX, x -> x.bringBack(0, bad));
            refuses("bringBack(3, " + bad + ")", Check.INDEX, x -> x.bringBack(3, bad));
            refuses("follow(0, " + bad + ", 0)", Check.INDEX, x -> x.follow(0, bad, 0));
            refuses("keyOf(0, " + bad + ", -1)", Check.INDEX, x -> x.keyOf(0, bad, -1));
            refuses("keyOf(0, " + bad + ", 5)", Check.INDEX, x -> x.keyOf(0, bad, 5));
            refuses("ifFollowed(0, " + bad + ", 0)", Check.INDEX, x -> x.ifFollowed(0, bad, 0));
        }
    }

    private static void noSuchSetting() {
        CHECK.sentence("10, 22: IndexOutOfBoundsException if there is no such setting");
        for (int bad : new int[] {-1, 3, Check.MIN, Check.MAX}) {
            refuses("setting(" + bad + ")", Check.INDEX, x -> x.setting(bad));
            refuses("set(" + bad + ", 1)", Check.INDEX, x -> x.set(bad, 1));
            refuses("set(" + bad + ", -1): named first", Check.INDEX, x -> x.set(bad, -1));
            refuses("set(" + bad + ", 21): named first", Check.INDEX, x -> x.set(bad, 21));
        }
    }

    private static void argumentsOutOfRange() {
        CHECK.sentence("IllegalArgumentException if it is out of range");
        for (int bad : new int[] {0, -1, 100, Check.MIN, Check.MAX}) {
            refuses("pass(" + bad + ")", Check.ARGUMENT, x -> x.pass(bad));
        }
        for (int bad : new int[] {-1, 100, Check.MIN, Check.MAX}) {
            refuses("season(0, " + bad + ")", Check.ARGUMENT, x -> x.season(0, bad));
        }
        for (int bad : new int[] {-1, 2, Check.MIN, Check.MAX}) {
            refuses("keep(" + bad + ")", Check.ARGUMENT, x -> x.keep(bad));
        }
        for (int bad : new int[] {-1, 5, Check.MIN, Check.MAX}) {
            refuses("keyOf(0, 1, " + bad + ")", Check.ARGUMENT, x -> x.keyOf(0, 1, bad));
        }
        for (int bad : new int[] {-1, 11, Check.MIN, Check.MAX}) {
            refuses("kindOf(0, " + bad + ")", Check.ARGUMENT, x -> x.kindOf(0, bad));
        }
        for (int bad : new int[] {-1, Check.MIN}) {
            refuses("pile(0, " + bad + ")", Check.ARGUMENT, x -> x.pile(0, bad));
        }
        for (int bad : new int[] {-1, 10, Check.MIN, Check.MAX}) {
            refuses("count(" + bad + ")", Check.ARGUMENT, x -> x.count(bad));
        }
        for (int bad : new int[] {0, -1, 17, Check.MIN, Check.MAX}) {
            refuses("coming(0, " + bad + ")", Check.ARGUMENT, x -> x.coming(0, bad));
        }
        for (int bad : new int[] {0, -1, Check.MIN}) {
            refuses("follow(0, 0, " + bad + ")", Check.ARGUMENT, x -> x.follow(0, 0, bad));
            refuses("ifFollowed(0, 0, " + bad + ")", Check.ARGUMENT,
                    x -> x.ifFollowed(0, 0, bad));
        }
        refuses("set(0, 4)", Check.ARGUMENT, x -> x.set(0, 4));
        refuses("set(0, -1)", Check.ARGUMENT, x -> x.set(0, -1));
        refuses("set(1, 0)", Check.ARGUMENT, x -> x.set(1, 0));
        refuses("set(1, 10)", Check.ARGUMENT, x -> x.set(1, 10));
        refuses("set(2, -1)", Check.ARGUMENT, x -> x.set(2, -1));
        refuses("set(2, 21)", Check.ARGUMENT, x -> x.set(2, 21));
    }

    private static void argumentNamedBeforeState() {
        CHECK.sentence("If several apply, the one that is named first: IllegalArgumentException");
        for (int bad : new int[] {32, 127, 0, -1, Check.MIN, Check.MAX}) {
            refuses("append(" + bad + ")", Check.ARGUMENT, x -> x.append(bad));
        }
        for (int bad : new int[] {-1, 2, Check.MIN, Check.MAX}) {
            refuses("goBack(" + bad + ")", Check.ARGUMENT, x -> x.goBack(bad));
        }
        CHECK.refuses("pass(100)", Check.ARGUMENT, RangesTest::full, x -> x.pass(100));
        CHECK.refuses("pass(0)", Check.ARGUMENT, RangesTest::full, x -> x.pass(0));
        refuses("run()", Check.ARGUMENT, x -> x.run());
    }

    private static void statesThatRefuse() {
        CHECK.sentence("IllegalStateException");
        refuses("delete of a fresh key", Check.STATE, x -> x.delete(0, 15));
        refuses("bringBack of a fresh key", Check.STATE, x -> x.bringBack(0, 15));
        Consumer<CompostKeys> deleteLying = x -> x.delete(0, 1);
        Consumer<CompostKeys> deleteWornOut = x -> x.delete(0, 2);
        Consumer<CompostKeys> backAlive = x -> x.bringBack(0, 0);
        Consumer<CompostKeys> backTooLate = x -> x.bringBack(0, 1);
        Consumer<CompostKeys> backWornOut = x -> x.bringBack(0, 2);
        refuses("delete in the pile", Check.STATE, deleteLying);
        refuses("delete worn out", Check.STATE, deleteWornOut);
        refuses("bringBack alive", Check.STATE, backAlive);
        refuses("bringBack too late", Check.STATE, backTooLate);
        refuses("bringBack worn out", Check.STATE, backWornOut);
        CHECK.refuses("pass(1)", Check.STATE, RangesTest::full, x -> x.pass(1));
        CHECK.refuses("append(33)", Check.STATE, RangesTest::full, x -> x.append(33));
        CHECK.refuses("goBack(0)", Check.STATE, RangesTest::busy, x -> x.goBack(0));
        CHECK.refuses("undo()", Check.STATE, CompostKeys::new, x -> x.undo());
    }

    private static void answers(String call, Consumer<CompostKeys> deed) {
        CompostKeys x = new CompostKeys();
        CHECK.due(call + " throws", Check.thrown(() -> deed.accept(x)), null);
        CompostKeys full = full();
        CHECK.due(call + " on the last day throws", Check.thrown(() -> deed.accept(full)), null);
    }

    private static void insideOfTheRanges() {
        CHECK.sentence("just inside of a range nothing is thrown");
        for (int kind : new int[] {0, 3}) {
            answers("ask", x -> x.ask(kind));
            answers("turn", x -> x.turn(kind));
            answers("ifAsked", x -> x.ifAsked(kind));
            answers("keyIn", x -> x.keyIn(kind));
            answers("longest", x -> x.longest(kind));
            answers("meanAge", x -> x.meanAge(kind));
            answers("season", x -> x.season(kind, 0));
            answers("season", x -> x.season(kind, 99));
            answers("kindOf", x -> x.kindOf(kind, 0));
            answers("kindOf", x -> x.kindOf(kind, 10));
            answers("pile", x -> x.pile(kind, 0));
            answers("pile", x -> x.pile(kind, Check.MAX));
            answers("coming", x -> x.coming(kind, 1));
            answers("coming", x -> x.coming(kind, 16));
            for (int key : new int[] {0, 15}) {
                answers("want", x -> x.want(kind, key));
                answers("follow", x -> x.follow(kind, key, 1));
                answers("follow", x -> x.follow(kind, key, Check.MAX));
                answers("ifFollowed", x -> x.ifFollowed(kind, key, 1));
                answers("ifFollowed", x -> x.ifFollowed(kind, key, Check.MAX));
                answers("keyOf", x -> x.keyOf(kind, key, 0));
                answers("keyOf", x -> x.keyOf(kind, key, 4));
            }
        }
        answers("count", x -> x.count(0));
        answers("count", x -> x.count(9));
        answers("setting", x -> x.setting(0));
        answers("setting", x -> x.setting(2));
        answers("keep", x -> x.keep(0));
        answers("keep", x -> x.keep(1));
    }
}
