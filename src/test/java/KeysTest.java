/** Promise 1 and the sentences under "Kinds, keys", one method for each. */
public final class KeysTest {
    private static final Check CHECK = new Check("KeysTest");

    public static void main(String[] args) {
        newObject();
        kindsAreApart();
        sixteenKeys();
        seasonAtFirst();
        stages();
        roundTellsHowOftenGiven();
        roundStaysOutsideOfGiving();
        pileFromTopToBottom();
        dayOfTheLatestDeletion();
        ripeAfterAsManyDaysAsTheSeason();
        ripeByTheSeasonAsItIsNow();
        ripeAtOnceWithoutASeason();
        ripeInTheLongestSeason();
        noOtherKeyIsRipe();
        CHECK.end();
    }

    private static void newObject() {
        CHECK.sentence("1: fresh keys, on the day 0, with empty slots and an empty buffer");
        CompostKeys x = new CompostKeys();
        CHECK.due("the day", x.count(0), 0);
        for (int kind = 0; kind < 4; kind++) {
            CHECK.due("fresh keys of " + kind, x.kindOf(kind, 1), 16);
        }
        CHECK.due("goBack(0) throws", Check.thrown(() -> x.goBack(0)), Check.STATE);
        CHECK.due("goBack(1) throws", Check.thrown(() -> x.goBack(1)), Check.STATE);
        CHECK.due("undo() throws", Check.thrown(() -> x.undo()), Check.STATE);
        CHECK.due("append", x.append('a'), 1);
        CompostKeys y = new CompostKeys();
        CHECK.due("another object begins anew", y.clearBuffer(), 0);
        x.ask(0);
        CHECK.due("two objects share no keys", y.kindOf(0, 1), 16);
    }

    private static void kindsAreApart() {
        CHECK.sentence("There are 4 kinds, numbered from 0");
        for (int kind = 0; kind < 4; kind++) {
            CompostKeys x = new CompostKeys();
            x.season(kind, 0);
            x.ask(kind);
            x.delete(kind, 0);
            x.turn(kind);
            x.bringBack(kind, 0);
            x.want(kind, 0);
            for (int other = 0; other < 4; other++) {
                for (int what = 0; what <= 10; what++) {
                    int begin = what == 0 ? 5 : what == 1 ? 16 : 0;
                    int changed = new int[] {0, 15, 1, 0, 0, 0, 1, 1, 1, 0, 1}[what];
                    CHECK.due("kind " + kind + " in use: kindOf(" + other + ", " + what + ")",
                            x.kindOf(other, what), other == kind ? changed : begin);
                }
                CHECK.due("key 0 of " + other, x.keyOf(other, 0, 0), other == kind ? 1 : 0);
            }
        }
    }

    private static void sixteenKeys() {
        CHECK.sentence("and 16 keys, numbered from 0");
        for (int kind = 0; kind < 4; kind++) {
            CompostKeys x = new CompostKeys();
            for (int key = 0; key < 16; key++) {
                CHECK.due("ask(" + kind + ")", x.ask(kind), key);
            }
            CHECK.due("a seventeenth row", x.ask(kind), 101);
        }
    }

    private static void seasonAtFirst() {
        CHECK.sentence("each with a season, 0 to 99 days, at first 5");
        CompostKeys x = new CompostKeys();
        for (int kind = 0; kind < 4; kind++) {
            CHECK.due("kindOf(" + kind + ", 0)", x.kindOf(kind, 0), 5);
            CHECK.due("season(" + kind + ", 0)", x.season(kind, 0), 5);
            CHECK.due("season(" + kind + ", 99)", x.season(kind, 99), 0);
            CHECK.due("kindOf(" + kind + ", 0)", x.kindOf(kind, 0), 99);
        }
    }

    private static void stages() {
        CHECK.sentence("fresh (0; at first), alive (1), in the pile (2), or worn out (3)");
        CompostKeys x = new CompostKeys();
        x.set(1, 1);
        for (int key : new int[] {0, 15}) {
            CHECK.due("at first", x.keyOf(3, key, 0), 0);
            x.want(3, key);
            CHECK.due("given", x.keyOf(3, key, 0), 1);
        }
        x.delete(3, 15);
        CHECK.due("deleted in its last round", x.keyOf(3, 15, 0), 3);
        x.set(1, 2);
        x.delete(3, 0);
        CHECK.due("deleted in a round before it", x.keyOf(3, 0, 0), 2);
        x.pass(5);
        CHECK.due("ripe", x.keyOf(3, 0, 0), 2);
    }

    private static void roundTellsHowOftenGiven() {
        CHECK.sentence("a round, at first 0: how often it was given, with this time");
        CompostKeys x = new CompostKeys();
        x.season(0, 0);
        x.set(1, 9);
        CHECK.due("fresh", x.keyOf(0, 6, 1), 0);
        for (int round = 1; round <= 9; round++) {
            CHECK.due("want(0, 6)", x.want(0, 6), round);
            CHECK.due("given", x.keyOf(0, 6, 1), round);
            x.delete(0, 6);
            CHECK.due("deleted", x.keyOf(0, 6, 1), round);
        }
        CHECK.due("worn out by round 9", x.keyOf(0, 6, 0), 3);
        CHECK.due("of another key", x.keyOf(0, 5, 1), 0);
    }

    private static void roundStaysOutsideOfGiving() {
        CHECK.sentence("round: how often it was given - and by nothing else");
        CompostKeys x = new CompostKeys();
        x.want(1, 4);
        x.want(1, 4);
        CHECK.due("wanted in vain", x.keyOf(1, 4, 1), 1);
        x.delete(1, 4);
        x.want(1, 4);
        CHECK.due("wanted too soon", x.keyOf(1, 4, 1), 1);
        x.turn(1);
        x.bringBack(1, 4);
        CHECK.due("brought back", x.keyOf(1, 4, 1), 1);
        x.follow(1, 4, 7);
        x.pass(99);
        CHECK.due("followed, days later", x.keyOf(1, 4, 1), 1);
    }

    private static void pileFromTopToBottom() {
        CHECK.sentence("The pile of a kind is a row of its keys, from the top to the bottom");
        CompostKeys x = Check.deleteAll(Check.allGiven(2), 2, 9, 0, 15);
        int[] pile = {15, 0, 9};
        for (int place = 0; place < 3; place++) {
            CHECK.due("pile(2, " + place + ")", x.pile(2, place), pile[place]);
            CHECK.due("its place", x.keyOf(2, pile[place], 2), place);
        }
        CHECK.due("pile(2, 3)", x.pile(2, 3), CompostKeys.NONE);
    }

    private static void dayOfTheLatestDeletion() {
        CHECK.sentence("a key knows the day on which it came to lie there");
        CompostKeys x = Check.deleteAll(Check.onDay(Check.allGiven(0), 1), 0, 3);
        x.pass(2);
        CHECK.due("days", x.keyOf(0, 3, 3), 2);
        x.bringBack(0, 3);
        x.pass(1);
        x.delete(0, 3);
        CHECK.due("on the day of the second deletion", x.keyOf(0, 3, 3), 0);
        x.pass(4);
        x.turn(0);
        CHECK.due("of the second one, turned", x.keyOf(0, 3, 3), 4);
        CHECK.due("not ripe by the first one", x.ask(0), 102);
        x.pass(1);
        CHECK.due("ripe by the second one", x.ask(0), 3);
        x.pass(6);
        x.delete(0, 3);
        CHECK.due("given, and deleted once more", x.keyOf(0, 3, 3), 0);
        CHECK.due("not ripe by the second one", x.ask(0), 102);
    }

    private static void ripeAfterAsManyDaysAsTheSeason() {
        CHECK.sentence("ripe if at least as many days as the season tells passed since that day");
        for (int season : new int[] {1, 5, 20}) {
            CompostKeys x = Check.allGiven(1);
            x.season(1, season);
            x.delete(1, 8);
            Check.onDay(x, season - 1);
            CHECK.due(season + ": one day less", x.kindOf(1, 4), 0);
            CHECK.due(season + ": one day less, asked", x.ask(1), 102);
            CHECK.due(season + ": one day less, wanted", x.want(1, 8), 105);
            CHECK.due(season + ": one day less, days", x.keyOf(1, 8, 4), 1);
            x.pass(1);
            CHECK.due(season + ": just as long", x.kindOf(1, 4), 1);
            CHECK.due(season + ": just as long, days", x.keyOf(1, 8, 4), 0);
            x.pass(1);
            CHECK.due(season + ": one day more, days", x.keyOf(1, 8, 4), 0);
            CHECK.due(season + ": one day more", x.ask(1), 8);
        }
    }

    private static void ripeByTheSeasonAsItIsNow() {
        CHECK.sentence("as the season, as it is now, tells");
        CompostKeys x = Check.deleteAll(Check.allGiven(1), 1, 8);
        x.pass(5);
        CHECK.due("by the season of then", x.kindOf(1, 4), 1);
        x.season(1, 6);
        CHECK.due("by a longer one", x.kindOf(1, 4), 0);
        CHECK.due("asked", x.ask(1), 102);
        x.season(1, 5);
        CHECK.due("by the first one again", x.kindOf(1, 4), 1);
        x.season(0, 99);
        CHECK.due("by that of its own kind", x.ask(1), 8);
    }

    private static void ripeAtOnceWithoutASeason() {
        CHECK.sentence("season 0: ripe on the day itself");
        CompostKeys x = Check.allGiven(3);
        x.season(3, 0);
        x.delete(3, 2);
        CHECK.due("ripe keys", x.kindOf(3, 4), 1);
        CHECK.due("days until it is ripe", x.keyOf(3, 2, 4), 0);
        CHECK.due("ask(3)", x.ask(3), 2);
    }

    private static void ripeInTheLongestSeason() {
        CHECK.sentence("season 99: ripe after 99 days");
        CompostKeys x = Check.allGiven(3);
        x.season(3, 99);
        x.delete(3, 2);
        CHECK.due("days until it is ripe", x.keyOf(3, 2, 4), 99);
        CHECK.due("pass(98)", x.pass(98), 0);
        CHECK.due("pass(1)", x.pass(1), 1);
        CHECK.due("ask(3)", x.ask(3), 2);
    }

    private static void noOtherKeyIsRipe() {
        CHECK.sentence("A key of the pile is ripe - no other one");
        CompostKeys x = new CompostKeys();
        x.ask(0);
        x.ask(1);
        x.set(1, 1);
        x.delete(1, 0);
        for (int kind = 0; kind < 4; kind++) {
            x.season(kind, 0);
            CHECK.due("ripe keys of " + kind, x.kindOf(kind, 4), 0);
        }
        CHECK.due("pass(99)", x.pass(99), 0);
        CHECK.due("count(4)", x.count(4), 0);
    }
}
