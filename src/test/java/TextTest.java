/** Promises 11 to 14: append, clearBuffer, firstError, run. */
public final class TextTest {
    private static final Check CHECK = new Check("TextTest");

    public static void main(String[] args) {
        appendFills();
        errorsByPlace();
        everyCharacterBehind();
        runDoesOrders();
        runStopsAtExceptions();
        runStopsAtRowsWithout();
        runIsUndoneAsOne();
        runRefusesOtherTexts();
        CHECK.end();
    }

    private static void appendFills() {
        CompostKeys x = new CompostKeys();
        CHECK.due("append(33)", x.append(33), 1);
        CHECK.due("append(126)", x.append(126), 2);
        for (int bad : new int[] {32, 127, 0, -1, Integer.MIN_VALUE, Integer.MAX_VALUE}) {
            CHECK.noArgument("append(" + bad + ")", x, () -> x.append(bad));
        }
        for (int length = 3; length <= 60; length++) {
            CHECK.due("append", x.append('a'), length);
        }
        CHECK.noState("append to a full buffer", x, () -> x.append('a'));
        CHECK.noArgument("append(32) to a full buffer", x, () -> x.append(32));
        CHECK.due("append is not undoable", x.count(9), 0);
        CHECK.due("clearBuffer()", x.clearBuffer(), 60);
        CHECK.due("clearBuffer() again", x.clearBuffer(), 0);
        CHECK.due("append after it", x.append('p'), 1);
        CHECK.due("clearBuffer() is not undoable", x.count(9), 0);
    }

    private static int errorOf(String text) {
        CompostKeys x = new CompostKeys();
        Check.write(x, text);
        return x.firstError();
    }

    private static void errorsByPlace() {
        CHECK.due("empty", errorOf(""), 0);
        String[] right = {
            "a", "a0", "a3", "p0;", "d2.0", "d2.1", "d2.10", "d2.15", "b0.9", "t1", "t9", "t10",
            "t99", "t99;a0;d0.0;b3.15;p2;t5", "d3", "d3.", "a0;a",
        };
        for (String text : right) {
            CHECK.due(text, errorOf(text), text.length());
        }
        String[] wrong = {
            "x", "A", ";", "0", "a4", "a-", "p4", "d4", "d0,", "d0.x", "d0.16", "d0.00", "d0.01",
            "d0.20", "d0.150", "b1;", "b1.;", "t0", "t;", "t100", "a0a", "a00", "a0;;", "t5.",
            "d0.1.", "a0.",
        };
        for (String text : wrong) {
            CHECK.due(text, errorOf(text), text.length() - 1);
        }
        CHECK.due("the first of several", errorOf("a0;a9;zz"), 4);
    }

    /** The characters that may follow some beginnings, and no others. */
    private static void everyCharacterBehind() {
        String[][] rows = {
            {"", "abdpt"}, {"a", "0123"}, {"p", "0123"}, {"d", "0123"}, {"b", "0123"}, {"d0", "."},
            {"b3", "."}, {"d0.", "0123456789"}, {"d0.1", ";012345"}, {"d0.0", ";"}, {"d0.2", ";"},
            {"b0.15", ";"}, {"t", "123456789"}, {"t1", ";0123456789"}, {"t12", ";"}, {"a0", ";"},
            {"p3", ";"}, {"a0;", "abdpt"}, {"d1.1;", "abdpt"},
        };
        for (String[] row : rows) {
            for (int code = 33; code <= 126; code++) {
                CompostKeys x = new CompostKeys();
                Check.write(x, row[0]);
                int length = x.append(code);
                int due = row[1].indexOf(code) >= 0 ? length : length - 1;
                CHECK.due(row[0] + (char) code, x.firstError(), due);
            }
        }
    }

    private static void runDoesOrders() {
        CompostKeys x = new CompostKeys();
        CHECK.due("run", Check.run(x, "a0;a0;a1;d0.1;d0.0;p0;t3;b0.1"), 8);
        CHECK.due("the buffer is cleared", x.clearBuffer(), 0);
        CHECK.due("the day", x.count(0), 3);
        CHECK.due("alive", x.count(1), 2);
        CHECK.due("pile(0, 0)", x.pile(0, 0), 0);
        CHECK.due("pile(0, 1)", x.pile(0, 1), -1);
        CHECK.due("given", x.kindOf(0, 6), 2);
        CHECK.due("deleted", x.kindOf(0, 7), 2);
        CHECK.due("brought back", x.kindOf(0, 10), 1);
        CHECK.due("one saved state", x.count(9), 1);
        CHECK.due("two digits", Check.run(x, "t99;t10"), 2);
        CHECK.due("the day then", x.count(0), 112);
        CompostKeys y = Check.allGiven(3);
        CHECK.due("keys of two digits", Check.run(y, "d3.15;d3.10;d3.9;p3"), 4);
        CHECK.due("on the top", y.pile(3, 0), 15);
        CHECK.due("the longest text", Check.run(y, "p0;p0;p0;p0;p0;p0;p0;p0;p0;p0;p0;p0;p0;p0;p0;p0;"
                + "p0;p0;p0;t1"), 20);
    }

    private static void runStopsAtExceptions() {
        CompostKeys x = new CompostKeys();
        CHECK.due("delete of a fresh key", Check.run(x, "t1;d0.0;t1"), 1);
        CHECK.due("no day after it", x.count(0), 1);
        CHECK.due("bringBack of a fresh key", Check.run(x, "a0;b0.0;a0"), 1);
        CHECK.due("bringBack too late", Check.run(x, "d0.0;t4;b0.0;t1"), 2);
        CHECK.due("the day", x.count(0), 5);
        CHECK.due("none is done", Check.run(x, "d0.5"), 0);
        CHECK.due("saved all the same", x.count(9), 4);
        CHECK.due("and the buffer is cleared", x.clearBuffer(), 0);
        CompostKeys y = new CompostKeys();
        for (int i = 0; i < 101; i++) {
            y.pass(99);
        }
        CHECK.due("the day would be above 9999", Check.run(y, "a0;t1;a0"), 1);
        CHECK.due("the last day", y.count(0), 9999);
        CHECK.due("one is alive", y.count(1), 1);
    }

    private static void runStopsAtRowsWithout() {
        CompostKeys x = Check.allGiven(2);
        CHECK.due("none is left", Check.run(x, "t1;a2;t1"), 1);
        CHECK.due("counted", x.kindOf(2, 8), 1);
        CHECK.due("not too soon", x.kindOf(2, 9), 0);
        CHECK.due("too soon", Check.run(x, "d2.4;t4;a2;t1"), 2);
        CHECK.due("counted, too", x.kindOf(2, 8), 2);
        CHECK.due("as too soon", x.kindOf(2, 9), 1);
        CHECK.due("the day", x.count(0), 5);
        CHECK.due("ripe by then", Check.run(x, "t1;a2"), 2);
    }

    private static void runIsUndoneAsOne() {
        CompostKeys x = Check.allGiven(1);
        x.keep(0);
        long before = x.digest();
        CHECK.due("saved states", x.count(9), 6);
        CHECK.due("run", Check.run(x, "d1.1;d1.2;t5;a1;a1;a1;t9"), 5);
        CHECK.due("undo of run", x.undo(), 5);
        CHECK.due("the day", x.count(0), 0);
        CHECK.due("alive", x.kindOf(1, 2), 16);
        CHECK.due("without", x.kindOf(1, 8), 0);
        CHECK.due("the buffer stays cleared", x.clearBuffer(), 0);
        x.goBack(0);
        CHECK.due("all is as before", x.digest(), before);
        CompostKeys y = new CompostKeys();
        long fresh = y.digest();
        CHECK.due("run of none", Check.run(y, "d1.1"), 0);
        CHECK.due("undo of it", y.undo(), 0);
        CHECK.due("as a new one", y.digest(), fresh);
    }

    private static void runRefusesOtherTexts() {
        String[] texts = {"", "a", "a0;", "d0", "d0.", "t", "t0", "a0;x", "x", "d0.16", "a0;;a0"};
        for (String text : texts) {
            CompostKeys x = new CompostKeys();
            Check.write(x, text);
            CHECK.noArgument("run of '" + text + "'", x, () -> x.run());
            CHECK.due("saved states", x.count(9), 0);
            CHECK.due("the buffer stays", x.clearBuffer(), text.length());
        }
    }
}
