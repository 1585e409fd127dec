import java.util.function.Supplier;

/** Promise 14, one method for each of its sentences and their edges. */
public final class OrdersTest {
    private static final Check CHECK = new Check("OrdersTest");

    public static void main(String[] args) {
        doesAsTheMethods();
        oneAfterTheOther();
        upToAnException();
        upToDeleteOfOneNotAlive();
        upToBringBackOfOneNotInThePile();
        upToBringBackTooLate();
        upToTheLastDay();
        upToARowThatGoesWithout();
        countedButNotDone();
        noExceptionIsMade();
        clearsTheBuffer();
        undoableAsOneCall();
        undoableIfNoneIsDone();
        howManyAreDone();
        refusesOtherTexts();
        CHECK.end();
    }

    /** The state, whatever number of states was saved on the way to it. */
    private static long state(CompostKeys x) {
        for (int i = 0; i < 6; i++) {
            x.turn(3);
            x.turn(3);
        }
        return x.digest();
    }

    /** Kind 0: 0 to 4 given; 1 and 2 in the pile since the day 0; the day is 3. */
    private static CompostKeys begun() {
        CompostKeys x = new CompostKeys();
        for (int key = 0; key <= 4; key++) {
            x.ask(0);
        }
        Check.deleteAll(x, 0, 1, 2);
        x.pass(3);
        return x;
    }

    private static void dueRun(String text, int done, CompostKeys x, CompostKeys same) {
        CHECK.due("run() of " + text, Check.run(x, text), done);
        CHECK.due("all behind " + text, state(x), state(same));
    }

    private static void doesAsTheMethods() {
        CHECK.sentence("14: Does the orders as ask(), delete(), bringBack(), turn() and pass() do");
        CompostKeys same = begun();
        same.ask(0);
        dueRun("a0", 1, begun(), same);
        same = begun();
        same.ask(3);
        dueRun("a3", 1, begun(), same);
        same = begun();
        same.delete(0, 4);
        dueRun("d0.4", 1, begun(), same);
        same = begun();
        same.bringBack(0, 1);
        dueRun("b0.1", 1, begun(), same);
        same = begun();
        same.turn(0);
        dueRun("p0", 1, begun(), same);
        same = begun();
        same.pass(1);
        dueRun("t1", 1, begun(), same);
        same = begun();
        same.pass(99);
        dueRun("t99", 1, begun(), same);
        same = Check.allGiven(3);
        same.delete(3, 15);
        dueRun("d3.15", 1, Check.allGiven(3), same);
        same = begun();
        same.turn(2);
        dueRun("p2", 1, begun(), same);
    }

    private static void oneAfterTheOther() {
        CHECK.sentence("14: one after the other, from left to right");
        CompostKeys same = begun();
        same.delete(0, 0);
        same.turn(0);
        same.pass(5);
        same.set(0, 0);
        same.ask(0);
        same.delete(0, 5);
        dueRun("d0.0;p0;t5;a0;d0.5", 5, begun(), same);
        same = begun();
        same.ask(0);
        same.turn(0);
        same.delete(0, 0);
        same.bringBack(0, 0);
        same.pass(15);
        dueRun("a0;p0;d0.0;b0.0;t15", 5, begun(), same);
        CompostKeys worn = begun();
        worn.set(1, 1);
        same = begun();
        same.set(1, 1);
        same.delete(0, 0);
        same.ask(0);
        dueRun("d0.0;a0", 2, worn, same);
    }

    /** The order stops the run in the first, a middle and the last place. */
    private static void dueStop(String order, Supplier<CompostKeys> made) {
        dueRun(order, 0, made.get(), made.get());
        dueRun(order + ";p1;a1", 0, made.get(), made.get());
        CompostKeys one = made.get();
        one.ask(2);
        dueRun("a2;" + order + ";a2", 1, made.get(), one);
        CompostKeys two = made.get();
        two.ask(2);
        two.ask(2);
        dueRun("a2;a2;" + order, 2, made.get(), two);
    }

    private static void upToAnException() {
        CHECK.sentence("14: up to the first one whose method would throw an exception");
        CompostKeys same = begun();
        same.ask(1);
        dueRun("a1;d0.9;d0.0;t1", 1, begun(), same);
        CompostKeys first = begun();
        first.pass(1);
        dueRun("t1;b0.1;d0.1;t99", 1, begun(), first);
    }

    private static void upToDeleteOfOneNotAlive() {
        CHECK.sentence("14: up to delete() of a key that is not alive");
        dueStop("d0.15", OrdersTest::begun);
        dueStop("d0.1", OrdersTest::begun);
        dueStop("d3.0", () -> Check.allWornOut(3));
        CompostKeys same = begun();
        same.delete(0, 0);
        dueRun("d0.0;d0.0;a1", 1, begun(), same);
    }

    private static void upToBringBackOfOneNotInThePile() {
        CHECK.sentence("14: up to bringBack() of a key that is not in the pile");
        dueStop("b0.15", OrdersTest::begun);
        dueStop("b0.0", OrdersTest::begun);
        dueStop("b3.0", () -> Check.allWornOut(3));
        CompostKeys same = begun();
        same.bringBack(0, 1);
        dueRun("b0.1;b0.1;a1", 1, begun(), same);
    }

    private static void upToBringBackTooLate() {
        CHECK.sentence("14: up to bringBack() of a row that was deleted too long ago");
        dueStop("b0.2", () -> Check.onDay(begun(), 4));
        CompostKeys same = begun();
        same.bringBack(0, 2);
        same.pass(1);
        dueRun("b0.2;t1;b0.1;t1", 2, begun(), same);
    }

    private static void upToTheLastDay() {
        CHECK.sentence("14: up to pass() to a day above 9999");
        dueStop("t1", () -> Check.onDay(begun(), 9999));
        dueStop("t99", () -> Check.onDay(begun(), 9901));
        CompostKeys same = Check.onDay(begun(), 9999);
        dueRun("t98;t1", 1, Check.onDay(begun(), 9901), same);
        same = Check.onDay(begun(), 9999);
        same.ask(0);
        dueRun("t99;a0", 2, Check.onDay(begun(), 9900), same);
    }

    private static void upToARowThatGoesWithout() {
        CHECK.sentence("14: or by which a row goes without");
        CompostKeys same = Check.allGiven(3);
        same.ask(3);
        dueRun("a3;t1", 0, Check.allGiven(3), same);
        CompostKeys middle = Check.allGiven(3);
        middle.delete(3, 4);
        middle.pass(4);
        middle.ask(3);
        dueRun("d3.4;t4;a3;t1;a3", 2, Check.allGiven(3), middle);
        CompostKeys last = Check.allGiven(3);
        last.turn(3);
        last.ask(3);
        dueRun("p3;a3", 1, Check.allGiven(3), last);
        CompostKeys all = Check.allGiven(3);
        all.delete(3, 4);
        all.pass(5);
        all.ask(3);
        all.ask(3);
        dueRun("d3.4;t5;a3;a3;a3", 3, Check.allGiven(3), all);
    }

    private static void dueCounts(CompostKeys x, int given, int without, int tooSoon) {
        CHECK.due("keys given", x.kindOf(3, 6), given);
        CHECK.due("rows that went without", x.kindOf(3, 8), without);
        CHECK.due("of these too soon", x.kindOf(3, 9), tooSoon);
    }

    private static void countedButNotDone() {
        CHECK.sentence("14: (that is counted, but not done)");
        CompostKeys x = Check.allGiven(3);
        CHECK.due("by reason 1", Check.run(x, "a3;a3"), 0);
        dueCounts(x, 16, 1, 0);
        x.delete(3, 0);
        CHECK.due("by reason 2", Check.run(x, "a3;a3"), 0);
        dueCounts(x, 16, 2, 1);
        CHECK.due("done", Check.run(x, "t5;a3"), 2);
        dueCounts(x, 17, 2, 1);
        x.undo();
        x.undo();
        dueCounts(x, 16, 1, 0);
    }

    private static void noExceptionIsMade() {
        CHECK.sentence("14: what its orders would throw is not thrown by run()");
        for (String text : new String[] {"d0.0", "b0.0", "d3.15", "b3.15", "a0;d0.0;d0.0"}) {
            CompostKeys x = Check.write(new CompostKeys(), text);
            CHECK.due("run() of " + text + " throws", Check.thrown(x::run), null);
        }
    }

    private static void clearsTheBuffer() {
        CHECK.sentence("14: and clears the buffer");
        for (String text : new String[] {"a0", "t1;d0.0;t1", "d0.0", "p0;".repeat(19) + "t10"}) {
            CompostKeys x = new CompostKeys();
            Check.run(x, text);
            CHECK.due("clearBuffer() behind run() of " + text, x.clearBuffer(), 0);
            Check.run(x, "t1");
            x.undo();
            CHECK.due("clearBuffer() behind undo()", x.clearBuffer(), 0);
        }
        CompostKeys without = Check.allGiven(0);
        Check.run(without, "a0");
        CHECK.due("clearBuffer() behind a row that goes without", without.clearBuffer(), 0);
    }

    private static void undoableAsOneCall() {
        CHECK.sentence("14: Undoable, as one call");
        CHECK.saves("run() of five orders", CompostKeys::new,
                x -> Check.run(x, "a0;d0.0;p0;b0.0;t9"));
        CHECK.saves("run() up to an exception", CompostKeys::new, x -> Check.run(x, "a0;d0.0;b0.1"));
        CompostKeys x = new CompostKeys();
        for (int days = 1; days <= 6; days++) {
            x.pass(1);
        }
        Check.run(x, "t2;t2;t2");
        for (int day : new int[] {6, 5, 4, 3, 2, 1}) {
            x.undo();
            CHECK.due("the day behind undo()", x.count(0), day);
        }
        CHECK.due("undo() throws then", Check.thrown(() -> x.undo()), Check.STATE);
    }

    private static void undoableIfNoneIsDone() {
        CHECK.sentence("14: also if none is done");
        CHECK.saves("run() of none", CompostKeys::new, x -> Check.run(x, "d0.0;t1"));
        CHECK.saves("run() of a row that goes without", () -> {
            CompostKeys x = new CompostKeys();
            Check.run(x, "a0;".repeat(15) + "a0");
            return x;
        }, x -> Check.run(x, "a0;t1"));
    }

    private static void howManyAreDone() {
        CHECK.sentence("14: Returns how many are done");
        for (int orders = 1; orders <= 20; orders++) {
            CompostKeys x = new CompostKeys();
            CHECK.due(orders + " orders", Check.run(x, "t1;".repeat(orders - 1) + "t1"), orders);
            CHECK.due("the day", x.count(0), orders);
        }
    }

    private static void refusesOtherTexts() {
        CHECK.sentence("14: IllegalArgumentException if the buffer does not tell days as a text");
        String[] texts = {
            "", ";", "a", "a0;", "a4", "d0", "d0.", "d0.16", "b0.00", "t", "t0", "t100", "a0;;a0",
            "a0x", "p0;".repeat(20), "~", "t1;a0;d",
        };
        for (String text : texts) {
            CHECK.refuses("run() of '" + text + "'", Check.ARGUMENT,
                    () -> Check.write(begun(), text), x -> x.run());
        }
    }
}
