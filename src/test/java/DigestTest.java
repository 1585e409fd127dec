import java.math.BigInteger;
import java.util.ArrayList;
import java.util.List;
import java.util.function.Supplier;

/** Promise 31: digest, told again here by the other methods of the face. */
public final class DigestTest {
    private static final Check CHECK = new Check("DigestTest");

    public static void main(String[] args) {
        newObject();
        bufferCodes();
        slots();
        rowsAndReferences();
        savedStates();
        settingsAndSeasons();
        thirdsAndSevenths();
        lastDay();
        overflow();
        changesNothing();
        CHECK.end();
    }

    private static void newObject() {
        CHECK.sentence("31: the hash starts at 3361: of a new object, value by value");
        List<Long> values = new ArrayList<>();
        add(values, 0, 0, 0, 0, 0, 0, 0, 0, 0, 0);
        add(values, 0, 4, 3);
        for (int kind = 0; kind < 4; kind++) {
            add(values, 5, 16, 0, 0, 0, 0, 0, 0, 0, 0, 0);
            for (int key = 0; key < 16; key++) {
                add(values, 0, 0, -1, -1, -1);
            }
            add(values, -1, -1, -1, -1);
            add(values, 0, 0, 0, 1, 2, 99, 0);
        }
        add(values, 0, 0x3ff0000000000000L, 0, 0, 0);
        CHECK.due("digest()", new CompostKeys().digest(), hash(values));
        dueDigest("new", CompostKeys::new, "--", "");
    }

    private static void bufferCodes() {
        CHECK.sentence("31: the length of the buffer and each of its character codes");
        for (String buffer : new String[] {"a", "a0;d~", "!", "~!", "p0;".repeat(20)}) {
            dueDigest("buffer " + buffer, () -> Check.write(new CompostKeys(), buffer), "--",
                    buffer);
        }
        dueDigest("cleared", () -> {
            CompostKeys x = Check.write(new CompostKeys(), "a0");
            x.clearBuffer();
            return x;
        }, "--", "");
        dueDigest("written over", () -> {
            CompostKeys x = Check.write(new CompostKeys(), "a0;a0");
            x.clearBuffer();
            return Check.write(x, "t9");
        }, "--", "t9");
    }

    private static void slots() {
        CHECK.sentence("31: for each slot 1 if it has a snapshot, otherwise 0");
        dueDigest("slot 0", () -> kept(0), "0-", "");
        dueDigest("slot 1", () -> kept(1), "-1", "");
        dueDigest("both slots", () -> kept(0, 1), "01", "");
        dueDigest("slot 1, gone back to", () -> {
            CompostKeys x = kept(1);
            x.goBack(1);
            return x;
        }, "-1", "");
    }

    private static CompostKeys kept(int... slots) {
        CompostKeys x = new CompostKeys();
        for (int slot : slots) {
            x.keep(slot);
        }
        return x;
    }

    private static CompostKeys used() {
        CompostKeys x = new CompostKeys();
        Check.run(x, "a0;a0;a0;a1;a3;d0.0;t1;d0.2;t3;d1.0;p0;t3");
        x.set(1, 1);
        x.delete(3, 0);
        x.set(1, 4);
        x.bringBack(1, 0);
        x.want(0, 1);
        x.want(0, 2);
        x.delete(0, 2);
        x.want(0, 2);
        x.follow(0, 2, 9);
        x.follow(0, 1, 1);
        return x;
    }

    private static void rowsAndReferences() {
        CHECK.sentence("31: count(0) to count(9); for each kind its properties, for each key its"
                + " properties");
        dueDigest("used", DigestTest::used, "--", "");
        dueDigest("used, mistake", () -> {
            CompostKeys x = used();
            x.season(0, 0);
            x.want(0, 0);
            x.follow(0, 0, 1);
            return x;
        }, "--", "");
        for (int kind = 0; kind < 4; kind++) {
            int given = kind;
            dueDigest("all given", () -> Check.allGiven(given), "--", "");
            dueDigest("all worn out", () -> Check.allWornOut(given), "--", "");
        }
    }

    private static void savedStates() {
        CHECK.sentence("31: count(9)");
        for (int saved = 0; saved <= 7; saved++) {
            int turns = saved;
            dueDigest(saved + " turns", () -> {
                CompostKeys x = new CompostKeys();
                for (int i = 0; i < turns; i++) {
                    x.turn(0);
                }
                return x;
            }, "--", "");
        }
    }

    private static void settingsAndSeasons() {
        CHECK.sentence("31: the settings 0 to 2; ifAsked, keyIn, coming of 1 to 3, longest");
        for (int rule = 0; rule <= 3; rule++) {
            int set = rule;
            dueDigest("rule " + rule, () -> {
                CompostKeys x = used();
                x.set(0, set);
                x.set(1, 9 - set);
                x.set(2, 20 - set);
                x.season(0, set);
                x.season(1, 99 - set);
                return x;
            }, "--", "");
        }
    }

    /** Shares and means whose bits are many. */
    private static void thirdsAndSevenths() {
        CHECK.sentence("31: the bits of meanAge and of ripeShare");
        for (int keys = 1; keys <= 16; keys++) {
            int deleted = keys;
            for (int days = 1; days <= 3; days++) {
                int passed = days;
                dueDigest(keys + " keys lie", () -> {
                    CompostKeys x = Check.allGiven(2);
                    for (int key = 0; key < deleted; key++) {
                        x.delete(2, key);
                        x.pass((key + passed) % 3 + 1);
                    }
                    return x;
                }, "--", "");
            }
        }
        dueDigest("a sixteenth of a day", () -> {
            CompostKeys x = Check.deleteAll(Check.allGiven(3), 3, 0);
            x.pass(1);
            return Check.deleteAll(x, 3, 1, 2, 3, 4, 5, 6, 7, 8, 9, 10, 11, 12, 13, 14, 15);
        }, "--", "");
    }

    private static void lastDay() {
        CHECK.sentence("31: the limit of the day does not matter");
        Supplier<CompostKeys> one =
                () -> Check.onDay(Check.deleteAll(Check.allGiven(1), 1, 0), 9999);
        dueDigest("one key since the day 0", one, "--", "");
        dueDigest("three keys", () -> Check.deleteAll(one.get(), 1, 1, 2), "--", "");
        dueDigest("two long ones of three", () -> {
            CompostKeys x = Check.deleteAll(Check.allGiven(1), 1, 0, 3);
            return Check.deleteAll(Check.onDay(x, 9998), 1, 5);
        }, "--", "");
    }

    private static void overflow() {
        CHECK.sentence("31: 31 * hash + v, in long arithmetic with overflow");
        for (Supplier<CompostKeys> made : List.<Supplier<CompostKeys>>of(CompostKeys::new,
                DigestTest::used)) {
            BigInteger whole = BigInteger.valueOf(3361);
            for (long value : values(made, "--", "")) {
                whole = whole.multiply(BigInteger.valueOf(31)).add(BigInteger.valueOf(value));
            }
            CHECK.due("it overflows", whole.bitLength() > 64, true);
            CHECK.due("digest()", made.get().digest(), whole.longValue());
        }
    }

    private static void changesNothing() {
        CHECK.sentence("31: Computes a hash - and changes nothing");
        CHECK.leaves("digest()", DigestTest::used, x -> x.digest());
        CompostKeys x = used();
        CHECK.due("digest() twice", x.digest(), x.digest());
        CHECK.due("digest() of the same calls", used().digest(), x.digest());
    }

    private static void add(List<Long> values, long... more) {
        for (long value : more) {
            values.add(value);
        }
    }

    private static long hash(List<Long> values) {
        long hash = 3361;
        for (long value : values) {
            hash = 31 * hash + value;
        }
        return hash;
    }

    private static void dueDigest(String call, Supplier<CompostKeys> made, String slots,
            String buffer) {
        CHECK.due("digest() of " + call, made.get().digest(), hash(values(made, slots, buffer)));
    }

    /** Several objects made alike are asked, since one is used for at most 512 calls. */
    private static List<Long> values(Supplier<CompostKeys> made, String slots, String buffer) {
        List<Long> values = new ArrayList<>();
        CompostKeys x = made.get();
        for (int what = 0; what <= 9; what++) {
            add(values, x.count(what));
        }
        for (int setting = 0; setting <= 2; setting++) {
            add(values, x.setting(setting));
        }
        for (int kind = 0; kind < 4; kind++) {
            addKind(values, made.get(), kind);
        }
        add(values, x.scarcest(), Double.doubleToLongBits(x.ripeShare()));
        add(values, slots.charAt(0) == '0' ? 1 : 0, slots.charAt(1) == '1' ? 1 : 0);
        add(values, buffer.length());
        for (int i = 0; i < buffer.length(); i++) {
            add(values, buffer.charAt(i));
        }
        return values;
    }

    private static void addKind(List<Long> values, CompostKeys x, int kind) {
        for (int what = 0; what <= 10; what++) {
            add(values, x.kindOf(kind, what));
        }
        for (int key = 0; key < 16; key++) {
            for (int what = 0; what <= 4; what++) {
                add(values, x.keyOf(kind, key, what));
            }
        }
        for (int place = 0; place <= 3; place++) {
            add(values, x.pile(kind, place));
        }
        add(values, x.ifAsked(kind), x.keyIn(kind));
        for (int rank = 1; rank <= 3; rank++) {
            add(values, x.coming(kind, rank));
        }
        add(values, x.longest(kind), Float.floatToIntBits(x.meanAge(kind)));
    }
}
