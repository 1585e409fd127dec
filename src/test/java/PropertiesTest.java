/** Promises 18 to 22: each property that is told, and its edges, one method for each. */
public final class PropertiesTest {
    private static final Check CHECK = new Check("PropertiesTest");
    private static final int NONE = CompostKeys.NONE;

    public static void main(String[] args) {
        statusOfAKey();
        roundOfAKey();
        placeInThePile();
        daysInThePile();
        daysUntilRipe();
        noneOutsideOfThePile();
        seasonOfAKind();
        keysOfAKindByStatus();
        ripeOnesOfThePile();
        givenSoFar();
        deletedSoFar();
        withoutSoFar();
        withoutTooSoonSoFar();
        broughtBackSoFar();
        keyOfAPlace();
        noneBelowTheBottom();
        dayCounted();
        aliveOfAllKinds();
        aliveByWhatWasDone();
        inPilesAndRipe();
        referencesSoFar();
        greatestRoundOfAllKeys();
        savedStates();
        looksChangeNothing();
        CHECK.end();
    }

    /** Kind 2: 0 alive, 1 and 2 in the pile for 0 and 4 days, 3 worn out, the others fresh. */
    private static CompostKeys mixed() {
        CompostKeys x = new CompostKeys();
        Check.run(x, "a2;a2;a2;a2;d2.2;t4;d2.1");
        x.set(1, 1);
        x.delete(2, 3);
        x.set(1, 4);
        return x;
    }

    private static void dueKeys(CompostKeys x, int what, int... due) {
        for (int key = 0; key < due.length; key++) {
            CHECK.due("keyOf(2, " + key + ", " + what + ")", x.keyOf(2, key, what), due[key]);
        }
    }

    private static void statusOfAKey() {
        CHECK.sentence("18: 0: 0 fresh, 1 alive, 2 in the pile, 3 worn out");
        dueKeys(mixed(), 0, 1, 2, 2, 3, 0, 0, 0, 0, 0, 0, 0, 0, 0, 0, 0, 0);
    }

    private static void roundOfAKey() {
        CHECK.sentence("18: 1: its round");
        CompostKeys x = mixed();
        x.pass(1);
        x.want(2, 2);
        dueKeys(x, 1, 1, 1, 2, 1, 0, 0, 0, 0, 0, 0, 0, 0, 0, 0, 0, 0);
    }

    private static void placeInThePile() {
        CHECK.sentence("18: 2: its place in the pile, from 0 at the top");
        CompostKeys x = mixed();
        dueKeys(x, 2, NONE, 0, 1, NONE, NONE);
        x.delete(2, 0);
        dueKeys(x, 2, 0, 1, 2, NONE, NONE);
        x.turn(2);
        dueKeys(x, 2, 2, 1, 0, NONE, NONE);
        x.bringBack(2, 1);
        dueKeys(x, 2, 1, NONE, 0, NONE, NONE);
    }

    private static void daysInThePile() {
        CHECK.sentence("18: 3: days since it came to lie there");
        CompostKeys x = mixed();
        dueKeys(x, 3, NONE, 0, 4, NONE, NONE);
        x.pass(1);
        dueKeys(x, 3, NONE, 1, 5, NONE, NONE);
        CompostKeys y = Check.onDay(Check.deleteAll(Check.allGiven(2), 2, 0), 9999);
        dueKeys(y, 3, 9999, NONE);
    }

    private static void daysUntilRipe() {
        CHECK.sentence("18: 4: days until it is ripe, 0 if it is");
        CompostKeys x = mixed();
        dueKeys(x, 4, NONE, 5, 1, NONE, NONE);
        x.pass(1);
        dueKeys(x, 4, NONE, 4, 0, NONE, NONE);
        x.pass(1);
        dueKeys(x, 4, NONE, 3, 0, NONE, NONE);
        x.season(2, 99);
        dueKeys(x, 4, NONE, 97, 93, NONE, NONE);
        x.season(2, 0);
        dueKeys(x, 4, NONE, 0, 0, NONE, NONE);
        CompostKeys y = Check.deleteAll(Check.onDay(Check.allGiven(2), 9999), 2, 0);
        dueKeys(y, 4, 5, NONE);
    }

    private static void noneOutsideOfThePile() {
        CHECK.sentence("18: NONE for 2 to 4 if it is not in the pile");
        CompostKeys x = mixed();
        for (int what = 2; what <= 4; what++) {
            CHECK.due("alive", x.keyOf(2, 0, what), NONE);
            CHECK.due("worn out", x.keyOf(2, 3, what), NONE);
            CHECK.due("fresh", x.keyOf(2, 15, what), NONE);
        }
        x.bringBack(2, 1);
        x.season(2, 0);
        x.want(2, 2);
        for (int what = 2; what <= 4; what++) {
            CHECK.due("brought back", x.keyOf(2, 1, what), NONE);
            CHECK.due("given again", x.keyOf(2, 2, what), NONE);
        }
    }

    private static void dueKind(CompostKeys x, int what, int due) {
        CHECK.due("kindOf(2, " + what + ")", x.kindOf(2, what), due);
    }

    private static void seasonOfAKind() {
        CHECK.sentence("19: 0: its season");
        CompostKeys x = mixed();
        dueKind(x, 0, 5);
        x.season(2, 99);
        dueKind(x, 0, 99);
        x.season(1, 7);
        dueKind(x, 0, 99);
    }

    private static void keysOfAKindByStatus() {
        CHECK.sentence("19: 1: fresh keys; 2: alive; 3: in the pile; 5: worn out");
        CompostKeys x = mixed();
        dueKind(x, 1, 12);
        dueKind(x, 2, 1);
        dueKind(x, 3, 2);
        dueKind(x, 5, 1);
        x = Check.allGiven(2);
        dueKind(x, 1, 0);
        dueKind(x, 2, 16);
        x = Check.allWornOut(2);
        dueKind(x, 2, 0);
        dueKind(x, 5, 16);
        x = Check.deleteAll(Check.allGiven(2), 2, 0, 1, 2, 3, 4, 5, 6, 7, 8, 9, 10, 11, 12, 13,
                14, 15);
        dueKind(x, 2, 0);
        dueKind(x, 3, 16);
    }

    private static void ripeOnesOfThePile() {
        CHECK.sentence("19: 4: ripe ones of these");
        CompostKeys x = mixed();
        dueKind(x, 4, 0);
        x.pass(1);
        dueKind(x, 4, 1);
        x.pass(3);
        dueKind(x, 4, 1);
        x.pass(1);
        dueKind(x, 4, 2);
        dueKind(x, 3, 2);
        x.ask(2);
        dueKind(x, 4, 2);
        x.want(2, 1);
        dueKind(x, 4, 1);
    }

    private static void givenSoFar() {
        CHECK.sentence("19: 6: keys given so far (by ask() and want())");
        CompostKeys x = mixed();
        dueKind(x, 6, 4);
        x.ask(2);
        dueKind(x, 6, 5);
        x.want(2, 15);
        dueKind(x, 6, 6);
        x.want(2, 15);
        x.bringBack(2, 1);
        x.delete(2, 1);
        dueKind(x, 6, 6);
        x.ask(1);
        dueKind(x, 6, 6);
        Check.run(x, "a2;a2");
        dueKind(x, 6, 8);
    }

    private static void deletedSoFar() {
        CHECK.sentence("19: 7: rows deleted so far");
        CompostKeys x = mixed();
        dueKind(x, 7, 3);
        x.delete(2, 0);
        dueKind(x, 7, 4);
        x.bringBack(2, 0);
        dueKind(x, 7, 4);
        Check.run(x, "d2.0");
        dueKind(x, 7, 5);
    }

    private static void withoutSoFar() {
        CHECK.sentence("19: 8: rows that went without so far (by ask() and want())");
        CompostKeys x = mixed();
        dueKind(x, 8, 0);
        x.want(2, 0);
        dueKind(x, 8, 1);
        x.want(2, 3);
        dueKind(x, 8, 2);
        x.want(2, 1);
        dueKind(x, 8, 3);
        CompostKeys y = Check.allGiven(2);
        y.ask(2);
        dueKind(y, 8, 1);
        y.delete(2, 0);
        y.ask(2);
        dueKind(y, 8, 2);
        Check.run(y, "a2");
        dueKind(y, 8, 3);
        y.ifAsked(2);
        y.coming(2, 16);
        dueKind(y, 8, 3);
        CHECK.due("of another kind", y.kindOf(1, 8), 0);
    }

    private static void withoutTooSoonSoFar() {
        CHECK.sentence("19: 9: of these those by the reasons 2 and 5");
        CompostKeys x = mixed();
        x.want(2, 0);
        x.want(2, 3);
        dueKind(x, 9, 0);
        x.want(2, 1);
        dueKind(x, 9, 1);
        CompostKeys y = Check.allGiven(2);
        y.ask(2);
        dueKind(y, 9, 0);
        y.delete(2, 0);
        y.ask(2);
        dueKind(y, 9, 1);
        Check.run(y, "a2");
        dueKind(y, 9, 2);
    }

    private static void broughtBackSoFar() {
        CHECK.sentence("19: 10: rows brought back so far");
        CompostKeys x = mixed();
        dueKind(x, 10, 0);
        x.bringBack(2, 1);
        dueKind(x, 10, 1);
        x.delete(2, 1);
        Check.run(x, "b2.1");
        dueKind(x, 10, 2);
    }

    private static CompostKeys fullPile() {
        return Check.deleteAll(Check.allGiven(0), 0, 15, 1, 2, 3, 4, 5, 6, 7, 8, 9, 10, 11, 12,
                13, 14, 0);
    }

    private static void keyOfAPlace() {
        CHECK.sentence("20: Returns a key of a pile, from 0 at the top");
        CompostKeys x = fullPile();
        CHECK.due("on the top", x.pile(0, 0), 0);
        CHECK.due("below it", x.pile(0, 1), 14);
        CHECK.due("above the bottom", x.pile(0, 14), 1);
        CHECK.due("at the bottom", x.pile(0, 15), 15);
    }

    private static void noneBelowTheBottom() {
        CHECK.sentence("20: NONE if there are not so many");
        CompostKeys x = fullPile();
        CHECK.due("pile(0, 16)", x.pile(0, 16), NONE);
        CHECK.due("pile(0, MAX)", x.pile(0, Check.MAX), NONE);
        x.bringBack(0, 8);
        CHECK.due("pile(0, 14)", x.pile(0, 14), 15);
        CHECK.due("pile(0, 15)", x.pile(0, 15), NONE);
        for (int place = 0; place <= 16; place++) {
            CHECK.due("an empty pile", x.pile(1, place), NONE);
        }
    }

    private static void dayCounted() {
        CHECK.sentence("21: 0: the day");
        CompostKeys x = new CompostKeys();
        CHECK.due("count(0)", x.count(0), 0);
        x.pass(1);
        CHECK.due("count(0)", x.count(0), 1);
        CHECK.due("count(0)", Check.onDay(x, 9999).count(0), 9999);
    }

    private static void aliveOfAllKinds() {
        CHECK.sentence("21: 1: keys that are alive, of all kinds");
        CompostKeys x = new CompostKeys();
        for (int kind = 0; kind < 4; kind++) {
            x.ask(kind);
            CHECK.due("count(1)", x.count(1), kind + 1);
        }
        x.delete(3, 0);
        CHECK.due("count(1)", x.count(1), 3);
        x.bringBack(3, 0);
        CHECK.due("count(1)", x.count(1), 4);
    }

    private static void aliveByWhatWasDone() {
        CHECK.sentence("21: 2: the same, told by what was given, brought back and deleted so far");
        CompostKeys x = new CompostKeys();
        for (int kind = 0; kind < 4; kind++) {
            x.season(kind, 0);
            x.ask(kind);
            x.want(kind, 9);
            x.delete(kind, 0);
            CHECK.due("count(2)", x.count(2), kind + 1);
        }
        x.bringBack(3, 0);
        CHECK.due("brought back", x.count(2), 5);
        x.want(0, 0);
        CHECK.due("given again", x.count(2), 6);
        x.set(1, 1);
        x.delete(0, 0);
        CHECK.due("worn out", x.count(2), 5);
        x.undo();
        CHECK.due("undone", x.count(2), 6);
        CHECK.due("the same", x.count(1), 6);
    }

    private static void inPilesAndRipe() {
        CHECK.sentence("21: 3: keys in piles; 4: ripe keys");
        CompostKeys x = new CompostKeys();
        for (int kind = 0; kind < 4; kind++) {
            x.season(kind, kind);
            x.ask(kind);
            x.delete(kind, 0);
            CHECK.due("count(3)", x.count(3), kind + 1);
            CHECK.due("count(4)", x.count(4), 1);
        }
        for (int day = 1; day <= 4; day++) {
            x.pass(1);
            CHECK.due("count(4)", x.count(4), Math.min(4, day + 1));
        }
        CHECK.due("count(3)", x.count(3), 4);
    }

    private static void referencesSoFar() {
        CHECK.sentence("21: 5: references followed; 6: mistakes; 7: dead references so far");
        CompostKeys x = mixed();
        x.pass(1);
        x.want(2, 2);
        x.follow(2, 2, 2);
        x.follow(2, 2, 1);
        x.follow(2, 2, 1);
        x.follow(2, 2, 3);
        x.follow(2, 1, 1);
        x.follow(2, 3, 1);
        CHECK.due("count(5)", x.count(5), 6);
        CHECK.due("count(6)", x.count(6), 2);
        CHECK.due("count(7)", x.count(7), 3);
    }

    private static void greatestRoundOfAllKeys() {
        CHECK.sentence("21: 8: the greatest round of all keys");
        for (int kind = 0; kind < 4; kind++) {
            for (int key : new int[] {0, 15}) {
                CompostKeys x = new CompostKeys();
                CHECK.due("fresh keys alone", x.count(8), 0);
                x.season(kind, 0);
                x.want(kind, key);
                CHECK.due("alive", x.count(8), 1);
                x.delete(kind, key);
                x.want(kind, key);
                x.delete(kind, key);
                CHECK.due("in the pile", x.count(8), 2);
                x.set(1, 3);
                x.want(kind, key);
                x.delete(kind, key);
                CHECK.due("worn out", x.count(8), 3);
                x.want(kind, 7);
                CHECK.due("beside a lesser one", x.count(8), 3);
            }
        }
    }

    private static void savedStates() {
        CHECK.sentence("21: 9: saved states");
        CompostKeys x = new CompostKeys();
        for (int saved = 0; saved <= 6; saved++) {
            CHECK.due("count(9)", x.count(9), saved);
            x.turn(0);
        }
        CHECK.due("count(9)", x.count(9), 6);
        x.undo();
        CHECK.due("count(9)", x.count(9), 5);
    }

    private static void looksChangeNothing() {
        CHECK.sentence("looks; nothing is changed");
        for (int what = 0; what <= 10; what++) {
            int told = what;
            CHECK.leaves("kindOf(2, " + what + ")", PropertiesTest::mixed, x -> x.kindOf(2, told));
            if (what <= 9) {
                CHECK.leaves("count(" + what + ")", PropertiesTest::mixed, x -> x.count(told));
            }
            if (what <= 4) {
                CHECK.leaves("keyOf(2, 1, " + what + ")", PropertiesTest::mixed,
                        x -> x.keyOf(2, 1, told));
            }
            if (what <= 2) {
                CHECK.leaves("setting(" + what + ")", PropertiesTest::mixed, x -> x.setting(told));
                CHECK.leaves("pile(2, " + what + ")", PropertiesTest::mixed, x -> x.pile(2, told));
            }
        }
    }
}
