/** Promise 31: digest, told again here by the other methods of the face. */
public final class DigestTest {
    private static final Check CHECK = new Check("DigestTest");

    public static void main(String[] args) {
        CompostKeys x = new CompostKeys();
        dueDigest("new", x, false, false, "");
        Check.write(x, "a0;d~");
        dueDigest("buffer", x, false, false, "a0;d~");
        x.clearBuffer();
        x.keep(1);
        dueDigest("slot 1", x, false, true, "");
        x.keep(0);
        dueDigest("both slots", x, true, true, "");
        Check.run(x, "a0;a0;a0;a1;d0.0;t1;d0.2;t3;d1.0;p0;t3");
        dueDigest("run", x, true, true, "");
        x.season(1, 0);
        x.set(0, 3);
        x.follow(0, 1, 1);
        dueDigest("calls", x, true, true, "");
        thirdsAndSevenths();
        lastDay();
        CHECK.end();
    }

    /** Shares and means whose bits are many. */
    private static void thirdsAndSevenths() {
        CompostKeys x = Check.allGiven(2);
        for (int key = 0; key < 16; key++) {
            x.delete(2, key);
            x.pass(key % 3 + 1);
            dueDigest("lying " + key, x, false, false, "");
        }
    }

    private static void lastDay() {
        CompostKeys x = Check.allGiven(1);
        x.delete(1, 0);
        for (int i = 0; i < 101; i++) {
            x.pass(99);
        }
        dueDigest("last day", x, false, false, "");
        x.delete(1, 1);
        x.delete(1, 2);
        dueDigest("last day, three keys", x, false, false, "");
    }

    private static void dueDigest(String call, CompostKeys x, boolean slot0, boolean slot1,
            String buffer) {
        long hash = 3361;
        for (int what = 0; what <= 9; what++) {
            hash = 31 * hash + x.count(what);
        }
        for (int setting = 0; setting <= 2; setting++) {
            hash = 31 * hash + x.setting(setting);
        }
        for (int kind = 0; kind < 4; kind++) {
            hash = withKind(hash, x, kind);
        }
        hash = 31 * hash + x.scarcest();
        hash = 31 * hash + Double.doubleToLongBits(x.ripeShare());
        hash = 31 * hash + (slot0 ? 1 : 0);
        hash = 31 * hash + (slot1 ? 1 : 0);
        hash = 31 * hash + buffer.length();
        for (int i = 0; i < buffer.length(); i++) {
            hash = 31 * hash + buffer.charAt(i);
        }
        CHECK.due("digest() of " + call, x.digest(), hash);
    }

    private static long withKind(long start, CompostKeys x, int kind) {
        long hash = start;
        for (int what = 0; what <= 10; what++) {
            hash = 31 * hash + x.kindOf(kind, what);
        }
        for (int key = 0; key < 16; key++) {
            for (int what = 0; what <= 4; what++) {
                hash = 31 * hash + x.keyOf(kind, key, what);
            }
        }
        for (int place = 0; place <= 3; place++) {
            hash = 31 * hash + x.pile(kind, place);
        }
        hash = 31 * hash + x.ifAsked(kind);
        hash = 31 * hash + x.keyIn(kind);
        for (int rank = 1; rank <= 3; rank++) {
            hash = 31 * hash + x.coming(kind, rank);
        }
        hash = 31 * hash + x.longest(kind);
        return 31 * hash + Float.floatToIntBits(x.meanAge(kind));
    }
}
