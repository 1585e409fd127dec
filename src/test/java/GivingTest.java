/** Promises 2 and 3 and the sentences under "Giving", one method for each. */
public final class GivingTest {
    private static final Check CHECK = new Check("GivingTest");

    public static void main(String[] args) {
        givenBecomesAlive();
        givenLeavesThePile();
        lowestFreshFirst();
        withoutFreshTheRipeOneNearestToTheTop();
        ripeNearestToTheTopFirst();
        withoutRipeTheLowestFresh();
        lowestOfAll();
        leastRound();
        leastRoundOfSeveralTheLowest();
        roundsAgainstFreshKeys();
        withoutByReasonOne();
        withoutByReasonTwo();
        askCounts();
        wantGivesFresh();
        wantGivesRipe();
        wantAlive();
        wantWornOut();
        wantNotRipe();
        wantIsDrawnByNoRule();
        wantAboveTheRoundsOfAKey();
        wantCounts();
        CHECK.end();
    }

    /**
     * Kind 0 on the day 5: the pile is 0, 8, 3, 1 from the top, 8 and 3 ripe, 0 and 1 not; all
     * others are alive but the ones that are named as fresh.
     */
    private static CompostKeys withPile(int... fresh) {
        CompostKeys x = new CompostKeys();
        for (int key = 0; key < 16; key++) {
            if (!isIn(fresh, key)) {
                x.want(0, key);
            }
        }
        Check.deleteAll(x, 0, 8, 3);
        x.pass(5);
        x.delete(0, 1);
        x.turn(0);
        x.delete(0, 0);
        return x;
    }

    private static boolean isIn(int[] keys, int wanted) {
        for (int key : keys) {
            if (key == wanted) {
                return true;
            }
        }
        return false;
    }

    private static void dueAsks(CompostKeys x, int rule, int... answers) {
        x.set(0, rule);
        for (int answer : answers) {
            CHECK.due("rule " + rule + ": ask(0)", x.ask(0), answer);
        }
    }

    private static void givenBecomesAlive() {
        CHECK.sentence("A key that is given becomes alive, its round becomes 1 more");
        CompostKeys x = withPile(15);
        CHECK.due("ask(0)", x.ask(0), 15);
        CHECK.due("fresh before: status", x.keyOf(0, 15, 0), 1);
        CHECK.due("fresh before: round", x.keyOf(0, 15, 1), 1);
        CHECK.due("ask(0)", x.ask(0), 8);
        CHECK.due("in the pile before: status", x.keyOf(0, 8, 0), 1);
        CHECK.due("in the pile before: round", x.keyOf(0, 8, 1), 2);
        CHECK.due("of another key: round", x.keyOf(0, 3, 1), 1);
        CHECK.due("want(0, 3)", x.want(0, 3), 2);
        CHECK.due("wanted: status", x.keyOf(0, 3, 0), 1);
    }

    private static void duePile(CompostKeys x, int... keys) {
        for (int place = 0; place < keys.length; place++) {
            CHECK.due("pile(0, " + place + ")", x.pile(0, place), keys[place]);
            CHECK.due("the place of " + keys[place], x.keyOf(0, keys[place], 2), place);
        }
        CHECK.due("pile(0, " + keys.length + ")", x.pile(0, keys.length), CompostKeys.NONE);
        CHECK.due("keys in the pile", x.kindOf(0, 3), keys.length);
    }

    private static void givenLeavesThePile() {
        CHECK.sentence("it is no longer in the pile");
        CompostKeys x = withPile();
        x.season(0, 0);
        duePile(x, 0, 8, 3, 1);
        x.want(0, 8);
        duePile(x, 0, 3, 1);
        CHECK.due("the place of 8", x.keyOf(0, 8, 2), CompostKeys.NONE);
        x.want(0, 1);
        duePile(x, 0, 3);
        x.want(0, 0);
        duePile(x, 3);
        x.ask(0);
        duePile(x);
    }

    private static void lowestFreshFirst() {
        CHECK.sentence("0: the lowest fresh key");
        dueAsks(withPile(2, 15), 0, 2, 15, 8);
        dueAsks(new CompostKeys(), 0, 0, 1);
        CompostKeys x = new CompostKeys();
        x.want(0, 0);
        x.want(0, 2);
        dueAsks(x, 0, 1, 3);
    }

    private static void withoutFreshTheRipeOneNearestToTheTop() {
        CHECK.sentence("0: without one the ripe key nearest to the top of the pile");
        dueAsks(withPile(), 0, 8, 3, 102);
        CompostKeys turned = withPile();
        turned.turn(0);
        dueAsks(turned, 0, 3, 8, 102);
        CompostKeys all = withPile();
        all.pass(5);
        dueAsks(all, 0, 0, 8, 3, 1, 101);
    }

    private static void ripeNearestToTheTopFirst() {
        CHECK.sentence("1: the ripe key nearest to the top");
        dueAsks(withPile(2), 1, 8, 3);
        CompostKeys turned = withPile(2);
        turned.turn(0);
        dueAsks(turned, 1, 3, 8);
        CompostKeys all = withPile(2);
        all.pass(5);
        dueAsks(all, 1, 0, 8, 3, 1);
    }

    private static void withoutRipeTheLowestFresh() {
        CHECK.sentence("1: without one the lowest fresh key");
        dueAsks(withPile(2, 15), 1, 8, 3, 2, 15, 102);
        dueAsks(new CompostKeys(), 1, 0, 1, 2);
    }

    private static void lowestOfAll() {
        CHECK.sentence("2: the lowest of all ripe and fresh keys");
        dueAsks(withPile(2, 5, 15), 2, 2, 3, 5, 8, 15, 102);
        dueAsks(withPile(), 2, 3, 8, 102);
        CompostKeys turned = withPile(15);
        turned.turn(0);
        dueAsks(turned, 2, 3, 8, 15, 102);
        dueAsks(new CompostKeys(), 2, 0, 1, 2);
    }

    /** Kind 0, all ripe at once: 9 in round 2, 4 and 12 in round 1, 3 in round 3, in the pile. */
    private static CompostKeys withRounds() {
        CompostKeys x = Check.allGiven(0);
        x.season(0, 0);
        Check.deleteAll(x, 0, 3, 9);
        x.want(0, 3);
        x.delete(0, 3);
        x.want(0, 3);
        x.want(0, 9);
        Check.deleteAll(x, 0, 4, 12, 3, 9);
        return x;
    }

    private static void leastRound() {
        CHECK.sentence("3: the ripe or fresh key with the least round");
        dueAsks(withRounds(), 3, 4, 12, 9, 3, 101);
        CompostKeys turned = withRounds();
        turned.turn(0);
        dueAsks(turned, 3, 4, 12, 9, 3, 101);
        CompostKeys notRipe = withRounds();
        notRipe.season(0, 1);
        dueAsks(notRipe, 3, 102);
    }

    private static void leastRoundOfSeveralTheLowest() {
        CHECK.sentence("3: of several the lowest");
        dueAsks(withPile(), 3, 3, 8, 102);
        dueAsks(new CompostKeys(), 3, 0, 1, 2);
        CompostKeys all = withPile();
        all.pass(5);
        dueAsks(all, 3, 0, 1, 3, 8, 101);
    }

    private static void roundsAgainstFreshKeys() {
        CHECK.sentence("3: a fresh one has the round 0");
        dueAsks(withPile(2, 15), 3, 2, 15, 3, 8, 102);
    }

    private static void withoutByReasonOne() {
        CHECK.sentence("1: if no key is fresh, none is in the pile");
        CompostKeys mixed = Check.allGiven(0);
        mixed.set(1, 1);
        Check.deleteAll(mixed, 0, 0, 7, 15);
        for (int rule = 0; rule <= 3; rule++) {
            dueAsks(Check.allGiven(0), rule, 101);
            dueAsks(Check.allWornOut(0), rule, 101);
            dueAsks(mixed, rule, 101);
        }
        mixed.ask(1);
        mixed.set(1, 2);
        mixed.delete(1, 0);
        CHECK.due("a pile of another kind", mixed.ask(0), 101);
    }

    private static void withoutByReasonTwo() {
        CHECK.sentence("2: otherwise (all that lie in the pile are not ripe)");
        for (int rule = 0; rule <= 3; rule++) {
            CompostKeys one = Check.allGiven(0);
            one.delete(0, 15);
            dueAsks(one, rule, 102);
            CompostKeys beside = Check.allGiven(0);
            beside.set(1, 1);
            Check.deleteAll(beside, 0, 0, 1, 2, 3, 4, 5, 6, 7, 8, 9, 10, 11, 12, 13, 14);
            beside.set(1, 2);
            beside.delete(0, 15);
            beside.pass(4);
            dueAsks(beside, rule, 102);
            beside.pass(1);
            dueAsks(beside, rule, 15, 101);
        }
        CompostKeys full = Check.allGiven(0);
        Check.deleteAll(full, 0, 0, 1, 2, 3, 4, 5, 6, 7, 8, 9, 10, 11, 12, 13, 14, 15);
        CHECK.due("a full pile", full.ask(0), 102);
    }

    private static void dueCounts(CompostKeys x, int given, int without, int tooSoon) {
        CHECK.due("keys given", x.kindOf(0, 6), given);
        CHECK.due("rows that went without", x.kindOf(0, 8), without);
        CHECK.due("of these too soon", x.kindOf(0, 9), tooSoon);
    }

    private static void askCounts() {
        CHECK.sentence("2: the key that is given; 100 and the reason if the row goes without");
        CompostKeys x = new CompostKeys();
        x.ask(0);
        dueCounts(x, 1, 0, 0);
        x = Check.allGiven(0);
        x.ask(0);
        dueCounts(x, 16, 1, 0);
        x.delete(0, 0);
        x.ask(0);
        dueCounts(x, 16, 2, 1);
        x.pass(5);
        x.ask(0);
        dueCounts(x, 17, 2, 1);
    }

    private static void wantGivesFresh() {
        CHECK.sentence("3: its round then, if it is given: a fresh key");
        CompostKeys x = new CompostKeys();
        CHECK.due("want(3, 15)", x.want(3, 15), 1);
        CHECK.due("want(3, 0)", x.want(3, 0), 1);
        CHECK.due("want(0, 0)", x.want(0, 0), 1);
        CHECK.due("keys alive", x.kindOf(3, 2), 2);
        CHECK.due("keys given", x.kindOf(3, 6), 2);
    }

    private static void wantGivesRipe() {
        CHECK.sentence("3: its round then, if it is given: a ripe key");
        CompostKeys x = withPile(2);
        CHECK.due("not the one nearest to the top", x.want(0, 3), 2);
        CHECK.due("keys alive", x.kindOf(0, 2), 12);
        x.pass(5);
        CHECK.due("at the bottom", x.want(0, 1), 2);
        CHECK.due("on the top", x.want(0, 0), 2);
        duePile(x, 8);
    }

    private static void wantAlive() {
        CHECK.sentence("3: 103: it is alive");
        CompostKeys x = withPile();
        CHECK.due("want(0, 2)", x.want(0, 2), 103);
        x.want(0, 8);
        CHECK.due("given a moment ago", x.want(0, 8), 103);
        CHECK.due("its round stays", x.keyOf(0, 8, 1), 2);
    }

    private static void wantWornOut() {
        CHECK.sentence("3: 104: it is worn out");
        CompostKeys x = withPile();
        x.season(0, 0);
        x.set(1, 1);
        x.delete(0, 2);
        CHECK.due("want(0, 2)", x.want(0, 2), 104);
        x.set(1, 9);
        x.pass(99);
        CHECK.due("worn out for ever", x.want(0, 2), 104);
        CHECK.due("and so it stays", x.keyOf(0, 2, 0), 3);
    }

    private static void wantNotRipe() {
        CHECK.sentence("3: 105: it is in the pile, and not ripe");
        CompostKeys x = withPile();
        CHECK.due("want(0, 0)", x.want(0, 0), 105);
        x.pass(4);
        CHECK.due("one day less", x.want(0, 0), 105);
        CHECK.due("its place stays", x.pile(0, 0), 0);
        x.pass(1);
        CHECK.due("just as long", x.want(0, 0), 2);
    }

    private static void wantIsDrawnByNoRule() {
        CHECK.sentence("3: a row wants a key by its number, whatever setting 0 is");
        for (int rule = 0; rule <= 3; rule++) {
            CompostKeys x = withPile(2, 15);
            x.set(0, rule);
            CHECK.due("rule " + rule + ": want(0, 15)", x.want(0, 15), 1);
            CHECK.due("rule " + rule + ": want(0, 3)", x.want(0, 3), 2);
            CHECK.due("rule " + rule + ": 2 is left", x.keyOf(0, 2, 0), 0);
            CHECK.due("rule " + rule + ": 8 is left", x.keyOf(0, 8, 0), 2);
        }
    }

    private static void wantAboveTheRoundsOfAKey() {
        CHECK.sentence("A smaller setting 1 wears out no key at once: it can be given");
        CompostKeys x = new CompostKeys();
        x.season(0, 0);
        x.want(0, 0);
        x.delete(0, 0);
        x.set(1, 1);
        CHECK.due("the round is setting 1 already", x.want(0, 0), 2);
        CHECK.due("alive in a round above it", x.keyOf(0, 0, 0), 1);
    }

    private static void wantCounts() {
        CHECK.sentence("6 and 8: by ask() and want(); 9: by the reasons 2 and 5");
        CompostKeys x = new CompostKeys();
        x.want(0, 0);
        dueCounts(x, 1, 0, 0);
        x.want(0, 0);
        dueCounts(x, 1, 1, 0);
        x.delete(0, 0);
        x.want(0, 0);
        dueCounts(x, 1, 2, 1);
        x.season(0, 0);
        x.want(0, 0);
        dueCounts(x, 2, 2, 1);
        x.set(1, 1);
        x.delete(0, 0);
        x.want(0, 0);
        dueCounts(x, 2, 3, 1);
    }
}
