import java.util.List;
import java.util.function.Consumer;

/** Promises 15 to 17: keep, goBack, undo. */
public final class SnapshotTest {
    private static final Check CHECK = new Check("SnapshotTest");

    public static void main(String[] args) {
        slotsKeep();
        goBackBringsAll();
        for (int kind = 0; kind < 4; kind++) {
            undoBringsAll(kind);
        }
        undoRestores();
        sixStatesAreSaved();
        everyUndoableCallIsSaved();
        wrongInputs();
        CHECK.end();
    }

    /** A state in which every part differs from that of a new object. */
    private static void changeAll(CompostKeys x) {
        x.set(0, 3);
        x.set(1, 1);
        x.set(2, 20);
        Check.run(x, "a0;a0;a0;a1;a2;d1.0;t7");
        x.set(1, 5);
        Check.run(x, "d0.0;d0.1;b0.0;p0;t1");
        x.season(3, 1);
        x.want(0, 2);
        x.want(1, 0);
        x.want(0, 1);
        x.follow(0, 0, 1);
        x.follow(0, 0, 2);
    }

    private static void slotsKeep() {
        CompostKeys x = new CompostKeys();
        x.pass(3);
        CHECK.due("keep(0)", x.keep(0), 3);
        x.pass(4);
        CHECK.due("keep(1)", x.keep(1), 7);
        x.pass(5);
        CHECK.due("not undoable", x.count(9), 3);
        CHECK.due("goBack(0)", x.goBack(0), 3);
        CHECK.due("goBack(1)", x.goBack(1), 7);
        CHECK.due("goBack(0) once more", x.goBack(0), 3);
        x.pass(1);
        CHECK.due("keep(0) in place of the other", x.keep(0), 4);
        x.pass(1);
        CHECK.due("goBack(0) to it", x.goBack(0), 4);
        CHECK.due("goBack(1) is as it was", x.goBack(1), 7);
        CHECK.due("undo of goBack", x.undo(), 5);
        CHECK.due("the day", x.count(0), 4);
    }

    /** Changes all that a snapshot holds, the order and the days of the pile of kind 0 among it. */
    private static void changeMore(CompostKeys x) {
        Check.deleteAll(x, 0, 0, 2);
        x.turn(0);
        x.pass(2);
        x.bringBack(0, 2);
        x.delete(0, 2);
        x.want(0, 2);
        x.want(0, 0);
        x.ask(1);
        x.set(0, 1);
        x.set(1, 9);
        x.set(2, 1);
        x.season(0, 3);
        x.season(3, 0);
        x.want(3, 0);
        x.delete(3, 0);
        x.want(3, 0);
        x.follow(3, 0, 1);
        x.follow(3, 0, 2);
        x.follow(3, 0, 3);
    }

    private static void goBackBringsAll() {
        CompostKeys x = new CompostKeys();
        changeAll(x);
        Check.deleteAll(x, 0, 0, 2);
        x.pass(1);
        x.keep(1);
        Check.write(x, "a0;");
        long before = x.digest();
        Check.write(x, "t1");
        x.bringBack(0, 0);
        x.bringBack(0, 2);
        changeMore(x);
        x.goBack(1);
        CHECK.due("the buffer stays", x.clearBuffer(), 5);
        Check.write(x, "a0;");
        CHECK.due("all is as kept", x.digest(), before);
        x.want(3, 3);
        x.goBack(1);
        CHECK.due("the snapshot stays", x.digest(), before);
        x.undo();
        CHECK.due("undone", x.keyOf(3, 3, 0), 1);
    }

    /** All that is told of the state, without the saved states, the slots and the buffer. */
    private static String looks(CompostKeys x) {
        StringBuilder text = new StringBuilder();
        for (int what = 0; what <= 8; what++) {
            text.append(' ').append(x.count(what));
        }
        for (int setting = 0; setting <= 2; setting++) {
            text.append(' ').append(x.setting(setting));
        }
        for (int kind = 0; kind < 4; kind++) {
            for (int what = 0; what <= 10; what++) {
                text.append(' ').append(x.kindOf(kind, what));
            }
            for (int at = 0; at < 16 * 5; at++) {
                text.append(' ').append(x.keyOf(kind, at / 5, at % 5));
            }
        }
        return text.toString();
    }

    private static CompostKeys withPile(int kind) {
        CompostKeys x = Check.allGiven(kind);
        x.season(kind, 1);
        Check.deleteAll(x, kind, 15, 14, 2);
        x.pass(1);
        return x;
    }

    /** Looks take most of the 512 calls for which an object is used; so each has its own. */
    private static void undoBringsAll(int kind) {
        List<Consumer<CompostKeys>> deeds = List.of(
                x -> x.turn(kind), x -> x.bringBack(kind, 14), x -> x.pass(1),
                x -> x.delete(kind, 14), x -> x.want(kind, 15), x -> x.follow(kind, 0, 1));
        for (int done = 0; done < deeds.size(); done++) {
            CompostKeys due = withPile(kind);
            deeds.subList(0, done).forEach(deed -> deed.accept(due));
            CompostKeys x = withPile(kind);
            deeds.forEach(deed -> deed.accept(x));
            for (int left = deeds.size() - 1; left >= done; left--) {
                CHECK.due("undo()", x.undo(), left);
            }
            CHECK.due("looks behind undo()", looks(x), looks(due));
        }
    }

    private static void undoRestores() {
        CompostKeys x = new CompostKeys();
        changeAll(x);
        for (int days = 1; days <= 6; days++) {
            x.pass(days);
        }
        int day = x.count(0);
        x.keep(0);
        for (int left = 5; left >= 0; left--) {
            CHECK.due("undo()", x.undo(), left);
            day -= left + 1;
            CHECK.due("the day", x.count(0), day);
        }
        CHECK.noState("undo() without a state", x, () -> x.undo());
        CHECK.due("a kept snapshot is not undone", x.goBack(0), day + 21);
    }

    private static void sixStatesAreSaved() {
        CompostKeys x = new CompostKeys();
        for (int i = 1; i <= 9; i++) {
            x.pass(1);
            CHECK.due("saved states", x.count(9), Math.min(i, 6));
        }
        for (int left = 5; left >= 0; left--) {
            CHECK.due("undo()", x.undo(), left);
        }
        CHECK.due("the day", x.count(0), 3);
        x.pass(1);
        x.ask(0);
        CHECK.due("undo() again", x.undo(), 1);
        CHECK.due("no key given", x.count(1), 0);
        CHECK.due("the day then", x.count(0), 4);
    }

    private static void everyUndoableCallIsSaved() {
        CompostKeys x = new CompostKeys();
        x.ask(0);
        x.keep(0);
        undoOf("ask", x, () -> x.ask(1));
        undoOf("want", x, () -> x.want(1, 9));
        undoOf("want in vain", x, () -> x.want(0, 0));
        undoOf("delete", x, () -> x.delete(0, 0));
        undoOf("turn", x, () -> x.turn(0));
        undoOf("follow", x, () -> x.follow(0, 0, 1));
        undoOf("pass", x, () -> x.pass(1));
        undoOf("season", x, () -> x.season(0, 5));
        undoOf("set", x, () -> x.set(0, 0));
        undoOf("goBack", x, () -> x.goBack(0));
        undoOf("run", x, () -> Check.run(x, "d0.0"));
        x.delete(0, 0);
        undoOf("bringBack", x, () -> x.bringBack(0, 0));
    }

    private static void undoOf(String call, CompostKeys x, Runnable run) {
        int saved = x.count(9);
        long before = x.digest();
        run.run();
        CHECK.due("saved by " + call, x.count(9), saved + 1);
        CHECK.due("undo of " + call, x.undo(), saved);
        CHECK.due("digest behind undo of " + call, x.digest(), before);
    }

    private static void wrongInputs() {
        CompostKeys x = new CompostKeys();
        x.keep(0);
        for (int bad : new int[] {-1, 2, Integer.MIN_VALUE, Integer.MAX_VALUE}) {
            CHECK.noArgument("keep(" + bad + ")", x, () -> x.keep(bad));
            CHECK.noArgument("goBack(" + bad + ")", x, () -> x.goBack(bad));
        }
        CHECK.noState("goBack(1)", x, () -> x.goBack(1));
        CHECK.due("goBack(0)", x.goBack(0), 0);
    }
}
