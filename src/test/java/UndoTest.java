import java.util.ArrayList;
import java.util.List;
import java.util.function.Consumer;
import java.util.function.Supplier;

/** Promises 15 to 17 and the sentences under "Snapshots, undo", one method for each. */
public final class UndoTest {
    private static final Check CHECK = new Check("UndoTest");

    public static void main(String[] args) {
        twoSlots();
        snapshotInPlaceOfTheOne();
        snapshotIsNotChangedLater();
        snapshotWithoutTheBuffer();
        snapshotWithoutTheSlots();
        snapshotWithoutTheSavedStates();
        keepIsNotUndoable();
        goBackAnswersTheDay();
        goBackLeavesTheSnapshot();
        goBackIsUndoable();
        goBackToAnEmptySlot();
        everyUndoableMethodSaves();
        savedEvenIfNothingChanges();
        othersSaveNothing();
        exceptionsSaveNothing();
        sixStatesAtMost();
        oldestIsDroppedFirst();
        undoRestoresTheLatest();
        undoRestoresCounts();
        undoRestoresPiles();
        goBackRestoresPiles();
        undoLeavesSlotsAndBuffer();
        undoIsNotUndone();
        undoWithoutASavedState();
        CHECK.end();
    }

    /** Kind 1: 0 and 3 alive, 1 in the pile since the day 2, 2 fresh; five states are saved. */
    private static CompostKeys begun() {
        CompostKeys x = new CompostKeys();
        Check.run(x, "a1;a1");
        x.want(1, 3);
        x.pass(2);
        x.delete(1, 1);
        x.follow(1, 0, 1);
        return x;
    }

    private static void dueAll(String call, CompostKeys got, CompostKeys want) {
        CHECK.due(call, Check.trail(got), Check.trail(want));
    }

    private static void twoSlots() {
        CHECK.sentence("There are two slots");
        CompostKeys x = new CompostKeys();
        CHECK.due("keep(0)", x.keep(0), 0);
        x.pass(7);
        CHECK.due("keep(1)", x.keep(1), 7);
        x.pass(5);
        CHECK.due("goBack(0)", x.goBack(0), 0);
        CHECK.due("goBack(1)", x.goBack(1), 7);
        CompostKeys one = new CompostKeys();
        one.keep(1);
        CHECK.due("goBack(0) throws", Check.thrown(() -> one.goBack(0)), Check.STATE);
        CHECK.due("goBack(1)", one.goBack(1), 0);
        CHECK.refuses("keep(2)", Check.ARGUMENT, UndoTest::begun, y -> y.keep(2));
        CHECK.refuses("keep(-1)", Check.ARGUMENT, UndoTest::begun, y -> y.keep(-1));
    }

    private static void snapshotInPlaceOfTheOne() {
        CHECK.sentence("15: Takes a snapshot, in place of the one in the slot; returns the day");
        for (int slot = 0; slot <= 1; slot++) {
            CompostKeys x = begun();
            CHECK.due("keep", x.keep(slot), 2);
            x.pass(99);
            CHECK.due("keep", x.keep(slot), 101);
            x.ask(0);
            CHECK.due("goBack", x.goBack(slot), 101);
            CHECK.due("keys of kind 0", x.kindOf(0, 2), 0);
            CHECK.due("the day", x.count(0), 101);
        }
        CHECK.due("on the last day", Check.onDay(new CompostKeys(), 9999).keep(0), 9999);
    }

    /** Deeds after which each part of the state is another one. */
    private static void changeAll(CompostKeys x) {
        x.season(1, 0);
        x.season(2, 9);
        x.ask(1);
        x.ask(1);
        x.delete(1, 0);
        x.turn(1);
        x.pass(3);
        x.delete(1, 2);
        x.bringBack(1, 2);
        x.want(1, 3);
        x.follow(1, 3, 1);
        x.follow(1, 2, 9);
        x.follow(1, 1, 1);
        x.set(0, 3);
        x.set(2, 7);
        x.set(1, 1);
        x.delete(1, 3);
    }

    /** All that is told of the state, but the number of saved states; 376 calls. */
    private static List<Integer> looks(CompostKeys x) {
        List<Integer> row = new ArrayList<>();
        for (int what = 0; what <= 8; what++) {
            row.add(x.count(what));
        }
        for (int setting = 0; setting <= 2; setting++) {
            row.add(x.setting(setting));
        }
        for (int kind = 0; kind < 4; kind++) {
            for (int what = 0; what <= 10; what++) {
                row.add(x.kindOf(kind, what));
            }
            for (int at = 0; at < 16 * 5; at++) {
                row.add(x.keyOf(kind, at / 5, at % 5));
            }
        }
        return row;
    }

    private static void snapshotIsNotChangedLater() {
        CHECK.sentence("a snapshot is all");
        for (int slot = 0; slot <= 1; slot++) {
            CompostKeys x = begun();
            x.keep(slot);
            changeAll(x);
            x.goBack(slot);
            CHECK.due("looks behind goBack(" + slot + ")", looks(x), looks(begun()));
            CompostKeys twice = begun();
            twice.keep(slot);
            changeAll(twice);
            twice.goBack(slot);
            changeAll(twice);
            twice.goBack(slot);
            CHECK.due("looks behind a second one", looks(twice), looks(begun()));
        }
    }

    private static void snapshotWithoutTheBuffer() {
        CHECK.sentence("all but the buffer");
        CompostKeys x = Check.write(begun(), "a0");
        x.keep(0);
        Check.write(x, ";t1");
        x.goBack(0);
        CHECK.due("run()", x.run(), 2);
        x.goBack(0);
        CHECK.due("clearBuffer()", x.clearBuffer(), 0);
    }

    private static void snapshotWithoutTheSlots() {
        CHECK.sentence("all but the slots");
        CompostKeys x = begun();
        x.keep(0);
        x.pass(1);
        x.keep(1);
        x.goBack(0);
        CHECK.due("taken after the snapshot", x.goBack(1), 3);
        x.pass(5);
        x.keep(0);
        x.goBack(1);
        CHECK.due("taken anew after it", x.goBack(0), 8);
    }

    private static void snapshotWithoutTheSavedStates() {
        CHECK.sentence("all but the saved states");
        CompostKeys x = new CompostKeys();
        x.keep(0);
        x.pass(1);
        x.pass(1);
        x.goBack(0);
        CHECK.due("saved states", x.count(9), 3);
        CHECK.due("undo()", x.undo(), 2);
        CHECK.due("the day", x.count(0), 2);
        CHECK.due("undo()", x.undo(), 1);
        CHECK.due("the day", x.count(0), 1);
        CompostKeys y = begun();
        y.keep(1);
        y.undo();
        y.undo();
        y.goBack(1);
        CHECK.due("saved states, not those of the snapshot", y.count(9), 4);
    }

    private static void keepIsNotUndoable() {
        CHECK.sentence("15: keep() saves no state, and is not undone");
        CompostKeys x = begun();
        x.keep(1);
        CHECK.due("saved states", x.count(9), 5);
        x.undo();
        CHECK.due("goBack(1)", x.goBack(1), 2);
        CHECK.due("the reference that was followed", x.count(5), 1);
    }

    private static void goBackAnswersTheDay() {
        CHECK.sentence("16: Returns the day then");
        CompostKeys x = Check.onDay(new CompostKeys(), 42);
        x.keep(0);
        x.pass(50);
        CHECK.due("goBack(0)", x.goBack(0), 42);
        CHECK.due("the day", x.count(0), 42);
        CompostKeys y = Check.onDay(new CompostKeys(), 9999);
        y.keep(1);
        y.undo();
        CHECK.due("to the last day", y.goBack(1), 9999);
    }

    private static void goBackLeavesTheSnapshot() {
        CHECK.sentence("16: Goes back to a snapshot, which stays");
        CompostKeys x = begun();
        x.keep(0);
        for (int time = 0; time < 3; time++) {
            x.pass(1);
            CHECK.due("goBack(0)", x.goBack(0), 2);
            CHECK.due("keys alive", x.count(1), 2);
        }
    }

    private static void goBackIsUndoable() {
        CHECK.sentence("16: Undoable");
        Supplier<CompostKeys> made = () -> {
            CompostKeys x = begun();
            x.keep(1);
            x.undo();
            x.undo();
            return x;
        };
        CHECK.saves("goBack(1)", made, x -> x.goBack(1));
        CHECK.saves("goBack(0) to the state as it is", () -> {
            CompostKeys y = begun();
            y.keep(0);
            return y;
        }, y -> y.goBack(0));
    }

    private static void goBackToAnEmptySlot() {
        CHECK.sentence("16: IllegalStateException if there is no snapshot in it");
        CHECK.refuses("goBack(0)", Check.STATE, UndoTest::begun, x -> x.goBack(0));
        CHECK.refuses("goBack(1)", Check.STATE, UndoTest::begun, x -> x.goBack(1));
        CHECK.refuses("goBack(2): named first", Check.ARGUMENT, UndoTest::begun, x -> x.goBack(2));
        CHECK.refuses("goBack(-1): named first", Check.ARGUMENT, UndoTest::begun,
                x -> x.goBack(-1));
    }

    private static void everyUndoableMethodSaves() {
        CHECK.sentence("Each method that is marked undoable saves the state from before it");
        CHECK.saves("ask", UndoTest::begun, x -> x.ask(1));
        CHECK.saves("want", UndoTest::begun, x -> x.want(1, 15));
        CHECK.saves("delete", UndoTest::begun, x -> x.delete(1, 3));
        CHECK.saves("bringBack", UndoTest::begun, x -> x.bringBack(1, 1));
        CHECK.saves("turn", () -> {
            CompostKeys x = begun();
            x.delete(1, 3);
            x.undo();
            x.undo();
            x.delete(1, 3);
            return x;
        }, x -> x.turn(1));
        CHECK.saves("follow", UndoTest::begun, x -> x.follow(1, 0, 2));
        CHECK.saves("pass", UndoTest::begun, x -> x.pass(99));
        CHECK.saves("season", UndoTest::begun, x -> x.season(1, 0));
        CHECK.saves("set", UndoTest::begun, x -> x.set(0, 3));
        CHECK.saves("run", UndoTest::begun, x -> Check.run(x, "d1.0;t1;p1"));
    }

    private static void savedEvenIfNothingChanges() {
        CHECK.sentence("(also if it changes nothing)");
        CHECK.saves("turn of an empty pile", UndoTest::begun, x -> x.turn(0));
        CHECK.saves("turn of one key", UndoTest::begun, x -> x.turn(1));
        CHECK.saves("season as it is", UndoTest::begun, x -> x.season(0, 5));
        CHECK.saves("set as it is", UndoTest::begun, x -> x.set(1, 4));
        CHECK.saves("run of none", UndoTest::begun, x -> Check.run(x, "d0.0"));
        CHECK.saves("want in vain", UndoTest::begun, x -> x.want(1, 0));
        CHECK.saves("want too soon", UndoTest::begun, x -> x.want(1, 1));
        CHECK.saves("ask in vain", () -> {
            CompostKeys x = new CompostKeys();
            Check.run(x, "a0;".repeat(15) + "a0");
            return x;
        }, x -> x.ask(0));
    }

    private static void othersSaveNothing() {
        CHECK.sentence("no other method saves a state");
        List<Consumer<CompostKeys>> others = List.of(
                x -> x.append('a'), x -> x.clearBuffer(), x -> x.firstError(), x -> x.keep(0),
                x -> x.keep(1), x -> x.keyOf(1, 1, 4), x -> x.kindOf(1, 10), x -> x.pile(1, 0),
                x -> x.count(9), x -> x.setting(0), x -> x.ifAsked(1), x -> x.keyIn(1),
                x -> x.coming(1, 16), x -> x.longest(1), x -> x.ifFollowed(1, 0, 1),
                x -> x.scarcest(), x -> x.ripeShare(), x -> x.meanAge(1), x -> x.digest());
        for (int i = 0; i < others.size(); i++) {
            CompostKeys x = begun();
            others.get(i).accept(x);
            CHECK.due("saved states behind the call " + i, x.count(9), 5);
        }
    }

    private static void exceptionsSaveNothing() {
        CHECK.sentence("that does not throw an exception");
        CHECK.refuses("ask", Check.INDEX, UndoTest::begun, x -> x.ask(4));
        CHECK.refuses("want", Check.INDEX, UndoTest::begun, x -> x.want(0, 16));
        CHECK.refuses("delete", Check.STATE, UndoTest::begun, x -> x.delete(1, 1));
        CHECK.refuses("bringBack", Check.STATE, UndoTest::begun, x -> x.bringBack(1, 0));
        CHECK.refuses("turn", Check.INDEX, UndoTest::begun, x -> x.turn(4));
        CHECK.refuses("follow", Check.ARGUMENT, UndoTest::begun, x -> x.follow(1, 0, 0));
        CHECK.refuses("pass", Check.ARGUMENT, UndoTest::begun, x -> x.pass(0));
        CHECK.refuses("season", Check.ARGUMENT, UndoTest::begun, x -> x.season(0, 100));
        CHECK.refuses("set", Check.ARGUMENT, UndoTest::begun, x -> x.set(1, 0));
        CHECK.refuses("run", Check.ARGUMENT, UndoTest::begun, x -> x.run());
        CHECK.refuses("goBack", Check.STATE, UndoTest::begun, x -> x.goBack(0));
    }

    private static void sixStatesAtMost() {
        CHECK.sentence("At most 6 states are saved");
        CompostKeys x = new CompostKeys();
        for (int saved = 1; saved <= 13; saved++) {
            x.pass(1);
            CHECK.due("saved states", x.count(9), Math.min(saved, 6));
        }
    }

    private static void oldestIsDroppedFirst() {
        CHECK.sentence("the oldest one is dropped first");
        for (int calls = 5; calls <= 20; calls++) {
            CompostKeys x = new CompostKeys();
            for (int call = 0; call < calls; call++) {
                x.pass(1);
            }
            int saved = Math.min(calls, 6);
            for (int left = saved - 1; left >= 0; left--) {
                CHECK.due("of " + calls + ": undo()", x.undo(), left);
                CHECK.due("of " + calls + ": the day", x.count(0), calls - saved + left);
            }
            CHECK.due("of " + calls + ": one more throws", Check.thrown(x::undo), Check.STATE);
        }
    }

    private static void undoRestoresTheLatest() {
        CHECK.sentence("17: Restores the latest saved state, and drops it");
        CompostKeys x = begun();
        CHECK.due("undo()", x.undo(), 4);
        CHECK.due("references followed", x.count(5), 0);
        x.ask(2);
        CHECK.due("saved states", x.count(9), 5);
        CHECK.due("undo() of ask", x.undo(), 4);
        CHECK.due("keys of kind 2", x.kindOf(2, 2), 0);
        CHECK.due("undo() of delete", x.undo(), 3);
        CHECK.due("key 1", x.keyOf(1, 1, 0), 1);
        CHECK.due("undo() of pass", x.undo(), 2);
        CHECK.due("the day", x.count(0), 0);
        CHECK.due("undo() of want", x.undo(), 1);
        CHECK.due("key 3", x.keyOf(1, 3, 0), 0);
        CHECK.due("undo() of run", x.undo(), 0);
        dueAll("all is as in a new object", x, new CompostKeys());
    }

    private static void undoRestoresCounts() {
        CHECK.sentence("all, also what is counted so far");
        CompostKeys x = begun();
        x.keep(0);
        changeAll(x);
        x.goBack(0);
        x.ask(1);
        x.want(1, 1);
        x.bringBack(1, 1);
        x.delete(1, 3);
        x.follow(1, 0, 2);
        for (int i = 0; i < 5; i++) {
            x.undo();
        }
        CHECK.due("looks", looks(x), looks(begun()));
    }

    /** The keys lie for 4, 4 and 1 days, 15 on the top and 0 at the bottom. */
    private static CompostKeys piled(int kind) {
        CompostKeys x = Check.deleteAll(Check.allGiven(kind), kind, 0, 8);
        x.set(2, 20);
        x.pass(3);
        x.delete(kind, 15);
        x.pass(1);
        return x;
    }

    /** Six deeds, after which the pile has the same keys for other days in another order. */
    private static void pileAnew(CompostKeys x, int kind) {
        x.bringBack(kind, 0);
        x.bringBack(kind, 15);
        x.pass(1);
        Check.deleteAll(x, kind, 15, 0);
        x.turn(kind);
    }

    private static void undoRestoresPiles() {
        CHECK.sentence("17: the order of a pile and the days of its keys come back");
        for (int kind = 0; kind < 4; kind++) {
            CompostKeys x = piled(kind);
            pileAnew(x, kind);
            for (int left = 5; left >= 0; left--) {
                CHECK.due("undo()", x.undo(), left);
            }
            CHECK.due("looks of kind " + kind, looks(x), looks(piled(kind)));
        }
    }

    private static void goBackRestoresPiles() {
        CHECK.sentence("16: the order of a pile and the days of its keys come back");
        for (int kind = 0; kind < 4; kind++) {
            CompostKeys x = piled(kind);
            x.keep(kind % 2);
            pileAnew(x, kind);
            x.goBack(kind % 2);
            CHECK.due("looks of kind " + kind, looks(x), looks(piled(kind)));
        }
    }

    private static void undoLeavesSlotsAndBuffer() {
        CHECK.sentence("but the buffer, the slots and the saved states");
        CompostKeys x = begun();
        x.pass(1);
        x.keep(0);
        Check.write(x, "a0;x");
        CHECK.due("undo()", x.undo(), 5);
        CHECK.due("firstError()", x.firstError(), 3);
        CHECK.due("clearBuffer()", x.clearBuffer(), 4);
        CHECK.due("goBack(0)", x.goBack(0), 3);
        x.undo();
        CHECK.due("the day", x.count(0), 2);
    }

    private static void undoIsNotUndone() {
        CHECK.sentence("17: undo() saves no state");
        CompostKeys x = begun();
        for (int left = 4; left >= 0; left--) {
            CHECK.due("undo()", x.undo(), left);
            CHECK.due("saved states", x.count(9), left);
        }
    }

    private static void undoWithoutASavedState() {
        CHECK.sentence("17: IllegalStateException if there is none");
        CHECK.refuses("undo() of a new object", Check.STATE, CompostKeys::new, x -> x.undo());
        CHECK.refuses("undo() with a snapshot and a buffer", Check.STATE, () -> {
            CompostKeys x = Check.write(new CompostKeys(), "a0");
            x.pass(1);
            x.keep(1);
            x.undo();
            return x;
        }, x -> x.undo());
    }
}
