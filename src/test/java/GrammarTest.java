import java.util.HashSet;
import java.util.Set;
import java.util.function.Supplier;

/** Promises 11 to 13 and the sentences under "Input text", one method for each. */
public final class GrammarTest {
    private static final Check CHECK = new Check("GrammarTest");
    private static final String SIGNS = "abdpt/0123456789:.;x";
    /** All orders as the document lists them, and all that an order begins with. */
    private static final Set<String> ORDERS = new HashSet<>();
    private static final Set<String> BEGINNINGS = new HashSet<>();

    public static void main(String[] args) {
        listOrders();
        everyOrder();
        noOtherKind();
        keysWithoutLeadingZeros();
        daysWithoutLeadingZeros();
        oneOrMoreOrders();
        everyShortText();
        textsOfAnyLength();
        firstErrorOfSeveral();
        firstErrorWithoutOne();
        firstErrorChangesNothing();
        appendTakesCodes();
        appendOutOfRange();
        appendUpToSixty();
        appendToAFullBuffer();
        clearBufferAnswers();
        bufferIsNotUndone();
        CHECK.end();
    }

    private static void listOrders() {
        for (int kind = 0; kind <= 3; kind++) {
            ORDERS.add("a" + kind);
            ORDERS.add("p" + kind);
            for (int key = 0; key <= 15; key++) {
                ORDERS.add("d" + kind + "." + key);
                ORDERS.add("b" + kind + "." + key);
            }
        }
        for (int days = 1; days <= 99; days++) {
            ORDERS.add("t" + days);
        }
        for (String order : ORDERS) {
            for (int length = 0; length <= order.length(); length++) {
                BEGINNINGS.add(order.substring(0, length));
            }
        }
    }

    /** Whether days as a text begin with it: whole orders, and a last one that may go on. */
    private static boolean begins(String text) {
        int last = text.lastIndexOf(';');
        return BEGINNINGS.contains(text.substring(last + 1))
                && (last < 0 || tellsDays(text.substring(0, last)));
    }

    private static boolean tellsDays(String text) {
        for (String order : text.split(";", -1)) {
            if (!ORDERS.contains(order)) {
                return false;
            }
        }
        return true;
    }

    private static int errorOf(String text) {
        for (int length = 1; length <= text.length(); length++) {
            if (!begins(text.substring(0, length))) {
                return length - 1;
            }
        }
        return text.length();
    }

    private static CompostKeys with(String text) {
        return Check.write(new CompostKeys(), text);
    }

    /** firstError() and, by whether it throws, run(). */
    private static void dueText(String text) {
        CompostKeys x = with(text);
        CHECK.due("firstError() of '" + text + "'", x.firstError(), errorOf(text));
        CHECK.due("run() of '" + text + "' throws", Check.thrown(x::run),
                tellsDays(text) ? null : Check.ARGUMENT);
    }

    private static void everyOrder() {
        CHECK.sentence("Days as a text: each order by itself");
        for (String order : ORDERS) {
            CHECK.due(order, with(order).firstError(), order.length());
            CHECK.due("run() of " + order + " throws", Check.thrown(with(order)::run), null);
        }
    }

    private static void noOtherKind() {
        CHECK.sentence("the digit of a kind, 0 to 3");
        for (char verb : "adbp".toCharArray()) {
            for (int digit = 0; digit <= 9; digit++) {
                CHECK.due("" + verb + digit, with("" + verb + digit).firstError(),
                        digit <= 3 ? 2 : 1);
            }
            CHECK.due(verb + "00", with(verb + "00").firstError(), 2);
        }
    }

    private static void keysWithoutLeadingZeros() {
        CHECK.sentence("a key, 0 to 15, without leading zeros");
        for (int key = 0; key <= 160; key++) {
            dueText("d3." + key);
            dueText("b0.0" + key);
            dueText("b2.00" + key);
        }
        CHECK.due("d0.15", with("d0.15").firstError(), 5);
        CHECK.due("d0.16", with("d0.16").firstError(), 4);
        CHECK.due("d0.00", with("d0.00").firstError(), 4);
        CHECK.due("d0.01", with("d0.01").firstError(), 4);
        CHECK.due("d0.100", with("d0.100").firstError(), 5);
    }

    private static void daysWithoutLeadingZeros() {
        CHECK.sentence("\"t\" and days, 1 to 99, without leading zeros");
        for (int days = 0; days <= 1000; days++) {
            dueText("t" + days);
        }
        CHECK.due("t0", with("t0").firstError(), 1);
        CHECK.due("t01", with("t01").firstError(), 1);
        CHECK.due("t99", with("t99").firstError(), 3);
        CHECK.due("t100", with("t100").firstError(), 3);
    }

    private static void oneOrMoreOrders() {
        CHECK.sentence("one or more orders with \";\" between them");
        String[] texts = {
            "", ";", "a0", "a0;", ";a0", "a0;;a0", "a0;a0", "a0a0", "a0,a0", "t1;t1;t1",
            "t10;", "d0.1;d0.15", "d0.1;;", "d0.1", "d0.", "d0", "d", "t", "p", "p0;p", "b1.1;b",
        };
        for (String text : texts) {
            dueText(text);
        }
    }

    /** Behind each of some beginnings all texts of three signs. */
    private static void everyShortText() {
        CHECK.sentence("a syntax error if no days as a text begin with the characters before it"
                + " and this character");
        String[] heads = {"", "a", "t", "d0.", "b3.1", "t9;", "d2"};
        int count = SIGNS.length();
        for (String head : heads) {
            for (int number = 0; number < count * count * count; number++) {
                dueText(head + SIGNS.charAt(number / count / count)
                        + SIGNS.charAt(number / count % count) + SIGNS.charAt(number % count));
            }
        }
    }

    private static void textsOfAnyLength() {
        CHECK.sentence("no days as a text, of any length: longer than the buffer, too");
        String most = "p0;".repeat(19);
        for (String last : new String[] {"p0;", "d0.", "t1;", "t10", "t99", "p0;".substring(1)}) {
            dueText(most + last);
        }
        CHECK.due("60 characters that go on", with(most + "p0;").firstError(), 60);
        CHECK.due("60 characters that go on", with(most + "b3.").firstError(), 60);
        CHECK.due("an error at the last place", with(most + "p0x").firstError(), 59);
        CHECK.due("an error behind an order", with(most + "t1.").firstError(), 59);
    }

    private static void firstErrorOfSeveral() {
        CHECK.sentence("13: the index of the first character that is a syntax error");
        CHECK.due("x", with("x").firstError(), 0);
        CHECK.due("a0xx;a9", with("a0xx;a9").firstError(), 2);
        CHECK.due("t1;a4;a5", with("t1;a4;a5").firstError(), 4);
        CHECK.due("A0", with("A0").firstError(), 0);
    }

    private static void firstErrorWithoutOne() {
        CHECK.sentence("13: the length of the buffer if there is none");
        CHECK.due("an empty buffer", new CompostKeys().firstError(), 0);
        for (String text : new String[] {"a", "a3", "a3;", "d", "d0", "d0.", "d0.1", "t", "t9"}) {
            CHECK.due(text, with(text).firstError(), text.length());
        }
    }

    private static void firstErrorChangesNothing() {
        CHECK.sentence("13: Finds the first syntax error - and changes nothing");
        CHECK.leaves("firstError() of days", () -> with("a0;t5"), x -> x.firstError());
        CHECK.leaves("firstError() of others", () -> with("a0;x"), x -> x.firstError());
    }

    private static void appendTakesCodes() {
        CHECK.sentence("11: the character code, 33 to 126");
        for (int code = 33; code <= 126; code++) {
            CompostKeys x = new CompostKeys();
            CHECK.due("append(" + code + ")", x.append(code), 1);
            CompostKeys other = new CompostKeys();
            other.append(code == 33 ? 126 : code - 1);
            // The digest of two buffers of one code differs by the codes.
            CHECK.due("the code itself", x.digest() - other.digest(), code == 33 ? -93L : 1L);
        }
    }

    private static void appendOutOfRange() {
        CHECK.sentence("11: IllegalArgumentException if code is not 33 to 126");
        for (int bad : new int[] {32, 127, 0, -1, 10, 33 + 256, 33 + 65536, Check.MIN, Check.MAX}) {
            CHECK.refuses("append(" + bad + ")", Check.ARGUMENT, () -> with("a0"),
                    x -> x.append(bad));
        }
    }

    private static void appendUpToSixty() {
        CHECK.sentence("The buffer has at most 60 characters");
        CompostKeys x = new CompostKeys();
        for (int length = 1; length <= 60; length++) {
            CHECK.due("append", x.append(33), length);
        }
        CHECK.due("the sixty-first throws", Check.thrown(() -> x.append(33)), Check.STATE);
        CHECK.due("clearBuffer()", x.clearBuffer(), 60);
        CHECK.due("append to the cleared one", x.append(33), 1);
    }

    private static void appendToAFullBuffer() {
        CHECK.sentence("11: IllegalStateException if the buffer has 60 characters");
        Supplier<CompostKeys> full = () -> with("p0;".repeat(20));
        CHECK.refuses("append(33)", Check.STATE, full, x -> x.append(33));
        CHECK.refuses("append(126)", Check.STATE, full, x -> x.append(126));
        CHECK.refuses("append(32): named first", Check.ARGUMENT, full, x -> x.append(32));
        CHECK.refuses("append(127): named first", Check.ARGUMENT, full, x -> x.append(127));
        CHECK.due("with 59", with("p0;".repeat(19) + "p0").append(126), 60);
        CompostKeys run = with("p0;".repeat(19) + "t10");
        CHECK.due("run()", run.run(), 20);
        CHECK.due("append behind run()", run.append(33), 1);
    }

    private static void clearBufferAnswers() {
        CHECK.sentence("12: Returns the length that it had");
        for (int length : new int[] {0, 1, 59, 60}) {
            CompostKeys x = with("a".repeat(length));
            CHECK.due("clearBuffer()", x.clearBuffer(), length);
            CHECK.due("all as in a new object", Check.trail(x), Check.trail(new CompostKeys()));
        }
        CompostKeys x = with("a0;x");
        x.clearBuffer();
        CHECK.due("firstError() of the cleared one", x.firstError(), 0);
        CHECK.due("run() of the cleared one throws", Check.thrown(x::run), Check.ARGUMENT);
    }

    private static void bufferIsNotUndone() {
        CHECK.sentence("11, 12: not undoable; all but the buffer is saved and kept");
        CompostKeys x = new CompostKeys();
        x.append('a');
        x.clearBuffer();
        CHECK.due("saved states", x.count(9), 0);
        x.append('a');
        x.keep(0);
        x.pass(1);
        x.append('0');
        x.undo();
        CHECK.due("undo() leaves the buffer", x.firstError(), 2);
        x.goBack(0);
        CHECK.due("goBack(0) leaves the buffer", x.firstError(), 2);
        x.clearBuffer();
        x.undo();
        CHECK.due("undo() brings back no buffer", x.clearBuffer(), 0);
    }
}
