/** Promises 1 to 7: a new object, ask, want, delete, bringBack, turn, follow. */
public final class RowsTest {
    private static final Check CHECK = new Check("RowsTest");

    public static void main(String[] args) {
        newObject();
        askDrawsFreshFirst();
        askDrawsRipeFirst();
        askDrawsLowest();
        askDrawsLeastRound();
        askGoesWithout();
        wantGivesByNumber();
        deleteLaysOnTop();
        deleteWearsOut();
        bringBackInTime();
        turnPutsBottomOnTop();
        followJudges();
        wrongInputs();
        CHECK.end();
    }

    private static void newObject() {
        CompostKeys x = new CompostKeys();
        for (int what = 0; what <= 9; what++) {
            CHECK.due("new: count(" + what + ")", x.count(what), 0);
        }
        CHECK.due("new: setting(0)", x.setting(0), 0);
        CHECK.due("new: setting(1)", x.setting(1), 4);
        CHECK.due("new: setting(2)", x.setting(2), 3);
        for (int kind = 0; kind < 4; kind++) {
            CHECK.due("new: season", x.kindOf(kind, 0), 5);
            CHECK.due("new: fresh", x.kindOf(kind, 1), 16);
            for (int what = 2; what <= 10; what++) {
                CHECK.due("new: kindOf(" + kind + ", " + what + ")", x.kindOf(kind, what), 0);
            }
            for (int key = 0; key < 16; key++) {
                CHECK.due("new: status", x.keyOf(kind, key, 0), 0);
                CHECK.due("new: round", x.keyOf(kind, key, 1), 0);
            }
        }
        CHECK.due("new: clearBuffer()", x.clearBuffer(), 0);
        CHECK.noState("new: goBack(0)", x, () -> x.goBack(0));
        CHECK.noState("new: goBack(1)", x, () -> x.goBack(1));
        CHECK.noState("new: undo()", x, () -> x.undo());
    }

    /** Kind 1: 0 to 3 given; then 1, 0, 2 in the pile from the top, 1 and 0 ripe by now. */
    private static CompostKeys withPile() {
        CompostKeys x = new CompostKeys();
        x.season(1, 2);
        for (int key = 0; key <= 3; key++) {
            x.ask(1);
        }
        Check.deleteAll(x, 1, 2, 0, 1);
        x.pass(2);
        // 2 goes and comes again, so that it is not ripe; the turns put it below the others.
        x.bringBack(1, 2);
        x.turn(1);
        x.delete(1, 2);
        x.turn(1);
        return x;
    }

    private static void askDrawsFreshFirst() {
        CompostKeys x = withPile();
        CHECK.due("pile(1, 0)", x.pile(1, 0), 1);
        CHECK.due("pile(1, 1)", x.pile(1, 1), 0);
        CHECK.due("pile(1, 2)", x.pile(1, 2), 2);
        x.want(1, 5);
        CHECK.due("rule 0: the lowest fresh", x.ask(1), 4);
        CHECK.due("rule 0: over a gap", x.ask(1), 6);
        for (int key = 7; key < 16; key++) {
            CHECK.due("rule 0: fresh", x.ask(1), key);
        }
        CHECK.due("rule 0: ripe nearest to the top", x.ask(1), 1);
        CHECK.due("rule 0: the next ripe one", x.ask(1), 0);
        CHECK.due("rule 0: the last is not ripe", x.ask(1), 102);
        CHECK.due("round of 1", x.keyOf(1, 1, 1), 2);
        CHECK.due("status of 1", x.keyOf(1, 1, 0), 1);
        CHECK.due("place of 2 then", x.keyOf(1, 2, 2), 0);
    }

    private static void askDrawsRipeFirst() {
        CompostKeys x = withPile();
        x.set(0, 1);
        CHECK.due("rule 1: ripe nearest to the top", x.ask(1), 1);
        CHECK.due("rule 1: the next ripe one", x.ask(1), 0);
        CHECK.due("rule 1: the lowest fresh", x.ask(1), 4);
        x.pass(2);
        CHECK.due("rule 1: ripe now", x.ask(1), 2);
    }

    private static void askDrawsLowest() {
        CompostKeys x = withPile();
        x.set(0, 2);
        CHECK.due("rule 2: lowest of all", x.ask(1), 0);
        CHECK.due("rule 2: next", x.ask(1), 1);
        CHECK.due("rule 2: fresh below none ripe", x.ask(1), 4);
        x.pass(2);
        CHECK.due("rule 2: ripe below fresh", x.ask(1), 2);
    }

    private static void askDrawsLeastRound() {
        CompostKeys x = Check.allGiven(2);
        x.season(2, 0);
        x.set(0, 3);
        Check.deleteAll(x, 2, 3, 7, 5);
        x.want(2, 3);
        x.delete(2, 3);
        CHECK.due("rule 3: least round, lowest", x.ask(2), 5);
        CHECK.due("rule 3: least round", x.ask(2), 7);
        CHECK.due("rule 3: round 2", x.ask(2), 3);
        CompostKeys y = new CompostKeys();
        y.season(0, 0);
        y.set(0, 3);
        y.ask(0);
        y.delete(0, 0);
        CHECK.due("rule 3: fresh has round 0", y.ask(0), 1);
    }

    private static void askGoesWithout() {
        CompostKeys x = Check.allGiven(3);
        CHECK.due("none is in the pile", x.ask(3), 101);
        x.delete(3, 9);
        CHECK.due("asked too soon", x.ask(3), 102);
        CHECK.due("went without", x.kindOf(3, 8), 2);
        CHECK.due("too soon", x.kindOf(3, 9), 1);
        CHECK.due("given", x.kindOf(3, 6), 16);
        x.pass(4);
        CHECK.due("a day too soon", x.ask(3), 102);
        x.pass(1);
        CHECK.due("just ripe", x.ask(3), 9);
        x.delete(3, 9);
        x.season(3, 0);
        CHECK.due("ripe at once in a season of 0", x.ask(3), 9);
    }

    private static void wantGivesByNumber() {
        CompostKeys x = new CompostKeys();
        CHECK.due("want fresh", x.want(0, 7), 1);
        CHECK.due("want alive", x.want(0, 7), 103);
        x.delete(0, 7);
        CHECK.due("want not ripe", x.want(0, 7), 105);
        x.pass(5);
        CHECK.due("want ripe", x.want(0, 7), 2);
        CHECK.due("the pile is empty", x.pile(0, 0), -1);
        x.set(1, 2);
        x.delete(0, 7);
        CHECK.due("want worn out", x.want(0, 7), 104);
        CHECK.due("given", x.kindOf(0, 6), 2);
        CHECK.due("went without", x.kindOf(0, 8), 3);
        CHECK.due("too soon", x.kindOf(0, 9), 1);
        CHECK.due("saved states", x.count(9), 6);
    }

    private static void deleteLaysOnTop() {
        CompostKeys x = Check.allGiven(0);
        CHECK.due("delete(0, 4)", x.delete(0, 4), 0);
        x.pass(3);
        CHECK.due("delete(0, 2)", x.delete(0, 2), 0);
        CHECK.due("on the top", x.pile(0, 0), 2);
        CHECK.due("below", x.pile(0, 1), 4);
        CHECK.due("lies since today", x.keyOf(0, 2, 3), 0);
        CHECK.due("lies for 3 days", x.keyOf(0, 4, 3), 3);
        CHECK.due("the round stays", x.keyOf(0, 2, 1), 1);
        CHECK.due("rows deleted", x.kindOf(0, 7), 2);
        CHECK.noState("delete in the pile", x, () -> x.delete(0, 2));
        CHECK.noState("delete fresh", x, () -> x.delete(1, 0));
    }

    private static void deleteWearsOut() {
        CompostKeys x = new CompostKeys();
        x.season(0, 0);
        for (int round = 1; round <= 3; round++) {
            x.want(0, 0);
            CHECK.due("delete in round " + round, x.delete(0, 0), 0);
        }
        CHECK.due("round 4", x.want(0, 0), 4);
        CHECK.due("delete in round 4", x.delete(0, 0), 1);
        CHECK.due("worn out", x.keyOf(0, 0, 0), 3);
        CHECK.due("its round", x.keyOf(0, 0, 1), 4);
        CHECK.due("not in the pile", x.pile(0, 0), -1);
        CHECK.due("worn out is deleted, too", x.kindOf(0, 7), 4);
        CHECK.noState("delete worn out", x, () -> x.delete(0, 0));
        CHECK.noState("bringBack worn out", x, () -> x.bringBack(0, 0));
        x.want(0, 1);
        x.delete(0, 1);
        x.want(0, 1);
        x.set(1, 1);
        CHECK.due("a smaller setting wears out no key at once", x.keyOf(0, 1, 0), 1);
        CHECK.due("a round above the setting", x.delete(0, 1), 1);
    }

    private static void bringBackInTime() {
        CompostKeys x = Check.allGiven(1);
        Check.deleteAll(x, 1, 3, 4, 5);
        x.pass(3);
        CHECK.due("on the last day", x.bringBack(1, 4), 1);
        CHECK.due("alive", x.keyOf(1, 4, 0), 1);
        CHECK.due("the gap is closed", x.pile(1, 1), 3);
        CHECK.due("brought back", x.kindOf(1, 10), 1);
        CHECK.due("not given", x.kindOf(1, 6), 16);
        CHECK.due("by account", x.count(2), 14);
        CHECK.noState("bringBack alive", x, () -> x.bringBack(1, 4));
        CHECK.noState("bringBack fresh", x, () -> x.bringBack(0, 4));
        x.pass(1);
        CHECK.noState("bringBack too late", x, () -> x.bringBack(1, 3));
        x.set(2, 4);
        CHECK.due("in time by a greater setting", x.bringBack(1, 3), 1);
        x.set(2, 0);
        x.delete(1, 3);
        CHECK.due("on the same day", x.bringBack(1, 3), 1);
    }

    private static void turnPutsBottomOnTop() {
        CompostKeys x = Check.allGiven(2);
        CHECK.due("turn an empty pile", x.turn(2), -1);
        x.delete(2, 8);
        CHECK.due("turn one key", x.turn(2), 8);
        x.pass(1);
        Check.deleteAll(x, 2, 1, 6);
        CHECK.due("turn three keys", x.turn(2), 8);
        CHECK.due("in the middle", x.pile(2, 1), 1);
        CHECK.due("at the bottom", x.pile(2, 2), 6);
        CHECK.due("no more", x.pile(2, 3), -1);
        CHECK.due("the days stay", x.keyOf(2, 8, 3), 1);
        x.delete(2, 0);
        CHECK.due("on the top of a turned pile", x.pile(2, 0), 0);
        CHECK.due("other piles are not turned", x.turn(1), -1);
    }

    private static void followJudges() {
        CompostKeys x = new CompostKeys();
        x.season(0, 0);
        CHECK.due("never given", x.follow(0, 0, 1), 1);
        x.want(0, 0);
        CHECK.due("right", x.follow(0, 0, 1), 0);
        CHECK.due("not yet given with it", x.follow(0, 0, 2), 1);
        x.delete(0, 0);
        CHECK.due("in the pile", x.follow(0, 0, 1), 1);
        x.want(0, 0);
        CHECK.due("a mistake", x.follow(0, 0, 1), 2);
        CHECK.due("right in round 2", x.follow(0, 0, 2), 0);
        CHECK.due("a great round", x.follow(0, 0, Integer.MAX_VALUE), 1);
        CHECK.due("followed", x.count(5), 7);
        CHECK.due("mistakes", x.count(6), 1);
        CHECK.due("dead ones", x.count(7), 4);
        x.undo();
        CHECK.due("followed, undone", x.count(5), 6);
    }

    private static void wrongInputs() {
        CompostKeys x = withPile();
        for (int bad : new int[] {-1, 4, Integer.MIN_VALUE, Integer.MAX_VALUE}) {
            CHECK.noIndex("ask(" + bad + ")", x, () -> x.ask(bad));
            CHECK.noIndex("turn(" + bad + ")", x, () -> x.turn(bad));
            CHECK.noIndex("want(" + bad + ", 0)", x, () -> x.want(bad, 0));
            CHECK.noIndex("delete(" + bad + ", 0)", x, () -> x.delete(bad, 0));
            CHECK.noIndex("bringBack(" + bad + ", 0)", x, () -> x.bringBack(bad, 0));
            CHECK.noIndex("follow(" + bad + ", 0, 0)", x, () -> x.follow(bad, 0, 0));
        }
        for (int bad : new int[] {-1, 16, Integer.MIN_VALUE, Integer.MAX_VALUE}) {
            CHECK.noIndex("want(0, " + bad + ")", x, () -> x.want(0, bad));
            CHECK.noIndex("delete(0, " + bad + ")", x, () -> x.delete(0, bad));
            CHECK.noIndex("bringBack(0, " + bad + ")", x, () -> x.bringBack(0, bad));
            CHECK.noIndex("follow(0, " + bad + ", 0)", x, () -> x.follow(0, bad, 0));
        }
        CHECK.noArgument("follow(0, 0, 0)", x, () -> x.follow(0, 0, 0));
        CHECK.noArgument("follow(0, 0, -1)", x, () -> x.follow(0, 0, -1));
    }
}
