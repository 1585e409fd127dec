/** Promises 18 to 22: keyOf, kindOf, pile, count, setting. */
public final class LooksTest {
    private static final Check CHECK = new Check("LooksTest");

    public static void main(String[] args) {
        keys();
        kinds();
        piles();
        counts();
        settings();
        wrongInputs();
        CHECK.end();
    }

    /** Kind 2: 0 alive, 1 to 3 in the pile (3, 1, 2 from the top), 4 worn out, 5 fresh again. */
    private static CompostKeys mixed() {
        CompostKeys x = new CompostKeys();
        Check.run(x, "a2;a2;a2;a2;a2;d2.2;t2;d2.1;t3;d2.3");
        x.set(1, 1);
        x.delete(2, 4);
        x.set(1, 4);
        return x;
    }

    private static void dueKey(CompostKeys x, int key, int... properties) {
        for (int what = 0; what <= 4; what++) {
            CHECK.due("keyOf(2, " + key + ", " + what + ")", x.keyOf(2, key, what),
                    properties[what]);
        }
    }

    private static void keys() {
        CompostKeys x = mixed();
        dueKey(x, 0, 1, 1, -1, -1, -1);
        dueKey(x, 1, 2, 1, 1, 3, 2);
        dueKey(x, 2, 2, 1, 2, 5, 0);
        dueKey(x, 3, 2, 1, 0, 0, 5);
        dueKey(x, 4, 3, 1, -1, -1, -1);
        dueKey(x, 5, 0, 0, -1, -1, -1);
        x.pass(7);
        dueKey(x, 1, 2, 1, 1, 10, 0);
        dueKey(x, 2, 2, 1, 2, 12, 0);
        x.want(2, 2);
        dueKey(x, 2, 1, 2, -1, -1, -1);
        dueKey(x, 1, 2, 1, 1, 10, 0);
        dueKey(x, 3, 2, 1, 0, 7, 0);
        CHECK.due("the same key of another kind", x.keyOf(1, 1, 0), 0);
    }

    private static void dueKind(CompostKeys x, int kind, int... properties) {
        for (int what = 0; what <= 10; what++) {
            CHECK.due("kindOf(" + kind + ", " + what + ")", x.kindOf(kind, what),
                    properties[what]);
        }
    }

    private static void kinds() {
        CompostKeys x = mixed();
        dueKind(x, 2, 5, 11, 1, 3, 1, 1, 5, 4, 0, 0, 0);
        x.want(2, 0);
        x.want(2, 1);
        x.want(2, 4);
        x.bringBack(2, 3);
        x.season(2, 9);
        dueKind(x, 2, 9, 11, 2, 2, 0, 1, 5, 4, 3, 1, 1);
        dueKind(x, 1, 5, 16, 0, 0, 0, 0, 0, 0, 0, 0, 0);
        CompostKeys y = Check.allGiven(3);
        y.ask(3);
        y.delete(3, 0);
        y.ask(3);
        y.want(3, 0);
        dueKind(y, 3, 5, 0, 15, 1, 0, 0, 16, 1, 3, 2, 0);
    }

    private static void piles() {
        CompostKeys x = mixed();
        CHECK.due("pile(2, 0)", x.pile(2, 0), 3);
        CHECK.due("pile(2, 1)", x.pile(2, 1), 1);
        CHECK.due("pile(2, 2)", x.pile(2, 2), 2);
        CHECK.due("pile(2, 3)", x.pile(2, 3), -1);
        CHECK.due("pile(2, max)", x.pile(2, Integer.MAX_VALUE), -1);
        CHECK.due("pile(1, 0)", x.pile(1, 0), -1);
        CompostKeys y = Check.allGiven(0);
        for (int key = 0; key < 16; key++) {
            y.delete(0, key);
        }
        for (int place = 0; place < 16; place++) {
            CHECK.due("a full pile", y.pile(0, place), 15 - place);
        }
        CHECK.due("below a full pile", y.pile(0, 16), -1);
    }

    private static void counts() {
        CompostKeys x = mixed();
        Check.run(x, "a0;a1;d1.0");
        x.follow(2, 0, 1);
        x.follow(2, 1, 1);
        x.follow(2, 3, 1);
        x.season(0, 0);
        Check.run(x, "d0.0");
        x.want(0, 0);
        x.follow(0, 0, 1);
        int[] due = {5, 2, 2, 4, 1, 4, 1, 2, 2, 6};
        for (int what = 0; what <= 9; what++) {
            CHECK.due("count(" + what + ")", x.count(what), due[what]);
        }
        x.bringBack(1, 0);
        CHECK.due("alive", x.count(1), 3);
        CHECK.due("alive by account", x.count(2), 3);
        x.undo();
        CHECK.due("alive, undone", x.count(1), 2);
        CHECK.due("alive by account, undone", x.count(2), 2);
        x.set(1, 2);
        x.delete(0, 0);
        CHECK.due("the greatest round, of a key worn out", x.count(8), 2);
        CHECK.due("alive by account, one worn out", x.count(2), 1);
        x.season(3, 0);
        for (int round = 1; round <= 3; round++) {
            x.want(3, 15);
            x.set(1, 9);
            x.delete(3, 15);
        }
        CHECK.due("the greatest round, of the last key", x.count(8), 3);
    }

    private static void settings() {
        CompostKeys x = new CompostKeys();
        x.set(0, 2);
        x.set(1, 8);
        x.set(2, 17);
        CHECK.due("setting(0)", x.setting(0), 2);
        CHECK.due("setting(1)", x.setting(1), 8);
        CHECK.due("setting(2)", x.setting(2), 17);
    }

    private static void wrongInputs() {
        CompostKeys x = mixed();
        for (int bad : new int[] {-1, 4, Integer.MIN_VALUE, Integer.MAX_VALUE}) {
            CHECK.noIndex("keyOf(" + bad + ", 0, -1)", x, () -> x.keyOf(bad, 0, -1));
            CHECK.noIndex("kindOf(" + bad + ", -1)", x, () -> x.kindOf(bad, -1));
            CHECK.noIndex("pile(" + bad + ", -1)", x, () -> x.pile(bad, -1));
        }
        for (int bad : new int[] {-1, 16, Integer.MIN_VALUE, Integer.MAX_VALUE}) {
            CHECK.noIndex("keyOf(0, " + bad + ", -1)", x, () -> x.keyOf(0, bad, -1));
        }
        for (int bad : new int[] {-1, 5, Integer.MIN_VALUE, Integer.MAX_VALUE}) {
            CHECK.noArgument("keyOf(0, 0, " + bad + ")", x, () -> x.keyOf(0, 0, bad));
        }
        for (int bad : new int[] {-1, 11, Integer.MIN_VALUE, Integer.MAX_VALUE}) {
            CHECK.noArgument("kindOf(0, " + bad + ")", x, () -> x.kindOf(0, bad));
        }
        for (int bad : new int[] {-1, Integer.MIN_VALUE}) {
            CHECK.noArgument("pile(0, " + bad + ")", x, () -> x.pile(0, bad));
        }
        for (int bad : new int[] {-1, 10, Integer.MIN_VALUE, Integer.MAX_VALUE}) {
            CHECK.noArgument("count(" + bad + ")", x, () -> x.count(bad));
        }
        for (int bad : new int[] {-1, 3, Integer.MIN_VALUE, Integer.MAX_VALUE}) {
            CHECK.noIndex("setting(" + bad + ")", x, () -> x.setting(bad));
        }
    }
}
