import java.util.List;
import java.util.function.Consumer;
import java.util.function.Supplier;

/** Promises 23 to 26 and 28 to 30, one method for each of their sentences and edges. */
public final class WhatWouldBeTest {
    private static final Check CHECK = new Check("WhatWouldBeTest");
    private static final int NONE = CompostKeys.NONE;

    public static void main(String[] args) {
        ifAskedAsAsk();
        keyInZeroIfNow();
        keyInDays();
        keyInOfTheFirstToBeRipe();
        keyInNever();
        keyInBeyondTheLastDay();
        comingByEachRule();
        comingOfTheSixteenthRow();
        comingNoneIfWithout();
        comingOnThisDay();
        comingAsAsk();
        longestWithFreshKeys();
        longestByTheOldest();
        longestIsAtMost99();
        longestWithoutKeys();
        longestAsSeasonAndAsk();
        scarcestOfKeysThatCouldBeGiven();
        scarcestOfSeveralTheLowest();
        shareOfRipeKeys();
        shareWithoutKeysInPiles();
        meanOfDays();
        meanWithoutKeys();
        nothingIsChanged();
        lastDayDoesNotMatter();
        ofEachKindAndKey();
        CHECK.end();
    }

    /**
     * Kind 0 on the day 4: the pile is 1, 4, 6 from the top, 1 not ripe, 4 in round 2; 7 and 12
     * are fresh, the others alive.
     */
    private static CompostKeys piled() {
        CompostKeys x = new CompostKeys();
        for (int key = 0; key < 16; key++) {
            if (key != 7 && key != 12) {
                x.want(0, key);
            }
        }
        x.season(0, 0);
        x.delete(0, 4);
        x.want(0, 4);
        Check.deleteAll(x, 0, 6, 4);
        x.pass(4);
        x.season(0, 4);
        return Check.deleteAll(x, 0, 1);
    }

    private static CompostKeys byRule(CompostKeys x, int rule) {
        x.set(0, rule);
        return x;
    }

    private static CompostKeys lying(int... keys) {
        return Check.deleteAll(Check.allGiven(0), 0, keys);
    }

    private static void ifAskedAsAsk() {
        CHECK.sentence("23: Returns what ask() would return");
        List<Supplier<CompostKeys>> states = List.of(CompostKeys::new, WhatWouldBeTest::piled,
                () -> Check.allGiven(0), () -> Check.allWornOut(0), () -> lying(3, 5),
                () -> Check.onDay(lying(3, 5), 4), () -> Check.onDay(lying(3, 5), 5));
        int[][] due = {
            {0, 0, 0, 0}, {7, 4, 4, 7}, {101, 101, 101, 101}, {101, 101, 101, 101},
            {102, 102, 102, 102}, {102, 102, 102, 102}, {5, 5, 3, 3},
        };
        for (int i = 0; i < due.length; i++) {
            for (int rule = 0; rule <= 3; rule++) {
                CompostKeys x = byRule(states.get(i).get(), rule);
                CHECK.due("state " + i + ", rule " + rule + ": ifAsked", x.ifAsked(0), due[i][rule]);
                CHECK.due("state " + i + ", rule " + rule + ": ask", x.ask(0), due[i][rule]);
            }
        }
    }

    private static void keyInZeroIfNow() {
        CHECK.sentence("24: in how many days, 0 if now");
        CompostKeys x = new CompostKeys();
        for (int key = 0; key < 16; key++) {
            CHECK.due("with fresh keys", x.keyIn(3), 0);
            x.ask(3);
        }
        CompostKeys ripe = Check.onDay(lying(3), 5);
        CHECK.due("just ripe", ripe.keyIn(0), 0);
        ripe.pass(1);
        CHECK.due("ripe since yesterday", ripe.keyIn(0), 0);
        ripe.delete(0, 4);
        CHECK.due("beside one not ripe", ripe.keyIn(0), 0);
        CompostKeys fresh = new CompostKeys();
        fresh.want(0, 0);
        fresh.delete(0, 0);
        CHECK.due("fresh beside one not ripe", fresh.keyIn(0), 0);
    }

    private static void keyInDays() {
        CHECK.sentence("24: Tells when a row that asks would get a key, if nothing is done");
        for (int season : new int[] {1, 5, 99}) {
            CompostKeys x = Check.allGiven(2);
            x.season(2, season);
            x.delete(2, 15);
            CHECK.due("in a season of " + season, x.keyIn(2), season);
            x.pass(1);
            CHECK.due("a day later", x.keyIn(2), season - 1);
        }
        CompostKeys x = lying(3);
        for (int left = 5; left >= 1; left--) {
            CHECK.due("keyIn(0)", x.keyIn(0), left);
            CHECK.due("ifAsked(0)", x.ifAsked(0), 102);
            x.pass(1);
        }
        CHECK.due("ask(0)", x.ask(0), 3);
        CHECK.due("keyIn(0) then", x.keyIn(0), NONE);
    }

    private static void keyInOfTheFirstToBeRipe() {
        CHECK.sentence("24: of several keys the first to be ripe");
        CompostKeys x = lying(9);
        x.pass(2);
        x.delete(0, 3);
        x.pass(1);
        x.delete(0, 12);
        for (int turns = 0; turns < 2; turns++) {
            CHECK.due("keyIn(0)", x.keyIn(0), 2);
            x.turn(0);
        }
        x.bringBack(0, 9);
        CHECK.due("keyIn(0)", x.keyIn(0), 4);
        x.bringBack(0, 3);
        CHECK.due("keyIn(0)", x.keyIn(0), 5);
    }

    private static void keyInNever() {
        CHECK.sentence("24: NONE if never");
        CHECK.due("all are alive", Check.allGiven(0).keyIn(0), NONE);
        CHECK.due("all are worn out", Check.allWornOut(0).keyIn(0), NONE);
        CompostKeys x = Check.allGiven(0);
        x.set(1, 1);
        Check.deleteAll(x, 0, 0, 15);
        CHECK.due("alive or worn out", x.keyIn(0), NONE);
        x.ask(1);
        x.set(1, 2);
        x.delete(1, 0);
        CHECK.due("a pile of another kind", x.keyIn(0), NONE);
    }

    private static void keyInBeyondTheLastDay() {
        CHECK.sentence("the limit of the day does not matter");
        CompostKeys x = Check.allGiven(0);
        x.season(0, 99);
        Check.onDay(x, 9999);
        x.delete(0, 0);
        CHECK.due("keyIn(0) on the day 9999", x.keyIn(0), 99);
        CompostKeys y = Check.deleteAll(Check.onDay(Check.allGiven(0), 9995), 0, 0);
        CHECK.due("keyIn(0) on the day 9995", y.keyIn(0), 5);
        y.pass(4);
        CHECK.due("keyIn(0) on the day 9999", y.keyIn(0), 1);
    }

    private static void dueComing(int rule, int... keys) {
        CompostKeys x = byRule(piled(), rule);
        for (int rank = 1; rank <= 16; rank++) {
            CHECK.due("rule " + rule + ": coming(0, " + rank + ")", x.coming(0, rank),
                    rank <= keys.length ? keys[rank - 1] : NONE);
        }
    }

    private static void comingByEachRule() {
        CHECK.sentence("25: Tells which key would be given, if rows ask one after the other");
        dueComing(0, 7, 12, 4, 6);
        dueComing(1, 4, 6, 7, 12);
        dueComing(2, 4, 6, 7, 12);
        dueComing(3, 7, 12, 6, 4);
    }

    private static void comingOfTheSixteenthRow() {
        CHECK.sentence("25: rank: 1 to 16: the first row, the second one, and so on");
        for (int rule = 0; rule <= 3; rule++) {
            CompostKeys x = byRule(new CompostKeys(), rule);
            for (int rank = 1; rank <= 16; rank++) {
                CHECK.due("rule " + rule + ": coming(3, " + rank + ")", x.coming(3, rank), rank - 1);
            }
        }
        CompostKeys full = lying(0, 1, 2, 3, 4, 5, 6, 7, 8, 9, 10, 11, 12, 13, 14, 15);
        full.pass(5);
        CHECK.due("the first of a full pile", full.coming(0, 1), 15);
        CHECK.due("the last of a full pile", full.coming(0, 16), 0);
    }

    private static void comingNoneIfWithout() {
        CHECK.sentence("25: NONE if it would go without");
        CompostKeys one = Check.onDay(lying(3), 5);
        CHECK.due("the first row", one.coming(0, 1), 3);
        CHECK.due("the second row", one.coming(0, 2), NONE);
        CHECK.due("the sixteenth row", one.coming(0, 16), NONE);
        CHECK.due("none is left", Check.allGiven(0).coming(0, 1), NONE);
        CHECK.due("all are worn out", Check.allWornOut(0).coming(0, 1), NONE);
        CHECK.due("too soon", lying(3).coming(0, 1), NONE);
        CompostKeys fifteen = new CompostKeys();
        fifteen.ask(0);
        CHECK.due("the fifteenth row", fifteen.coming(0, 15), 15);
        CHECK.due("the sixteenth row", fifteen.coming(0, 16), NONE);
    }

    private static void comingOnThisDay() {
        CHECK.sentence("25: on this day");
        CompostKeys x = Check.deleteAll(Check.onDay(lying(3), 1), 0, 8);
        CHECK.due("coming(0, 1)", x.coming(0, 1), NONE);
        x.pass(4);
        CHECK.due("coming(0, 1)", x.coming(0, 1), 3);
        CHECK.due("coming(0, 2)", x.coming(0, 2), NONE);
        x.pass(1);
        CHECK.due("coming(0, 1)", x.coming(0, 1), 8);
        CHECK.due("coming(0, 2)", x.coming(0, 2), 3);
    }

    private static void comingAsAsk() {
        CHECK.sentence("25: the keys that ask() gives then");
        for (int rule = 0; rule <= 3; rule++) {
            CompostKeys asked = byRule(piled(), rule);
            CompostKeys told = byRule(piled(), rule);
            for (int rank = 1; rank <= 5; rank++) {
                int key = asked.ask(0);
                CHECK.due("rule " + rule + ", rank " + rank, told.coming(0, rank),
                        key < 100 ? key : NONE);
            }
        }
    }

    private static void longestWithFreshKeys() {
        CHECK.sentence("26: with a fresh key any season would do");
        CompostKeys x = new CompostKeys();
        for (int key = 0; key < 16; key++) {
            CHECK.due("longest(1)", x.longest(1), 99);
            x.ask(1);
        }
        CHECK.due("longest(1) without any", x.longest(1), NONE);
    }

    private static void longestByTheOldest() {
        CHECK.sentence("26: the greatest season with which a row that asks now would get a key");
        CompostKeys x = lying(3);
        CHECK.due("on the day itself", x.longest(0), 0);
        x.pass(1);
        x.delete(0, 2);
        x.delete(0, 9);
        CHECK.due("a day later", x.longest(0), 1);
        x.turn(0);
        CHECK.due("turned", x.longest(0), 1);
        x.bringBack(0, 3);
        CHECK.due("without the oldest one", x.longest(0), 0);
        x.pass(9);
        x.season(0, 0);
        CHECK.due("in no season", x.longest(0), 9);
        x.season(0, 99);
        CHECK.due("in a long season", x.longest(0), 9);
    }

    private static void longestIsAtMost99() {
        CHECK.sentence("26: the greatest season, 0 to 99");
        CompostKeys x = lying(3);
        x.pass(98);
        CHECK.due("98 days", x.longest(0), 98);
        x.pass(1);
        CHECK.due("99 days", x.longest(0), 99);
        x.pass(1);
        CHECK.due("100 days", x.longest(0), 99);
        CHECK.due("9999 days", Check.onDay(x, 9999).longest(0), 99);
    }

    private static void longestWithoutKeys() {
        CHECK.sentence("26: NONE if there is none");
        CHECK.due("all are alive", Check.allGiven(0).longest(0), NONE);
        CHECK.due("all are worn out", Check.allWornOut(0).longest(0), NONE);
        CompostKeys x = Check.allGiven(0);
        x.set(1, 1);
        Check.deleteAll(x, 0, 0, 15);
        CHECK.due("alive or worn out", x.longest(0), NONE);
    }

    private static void longestAsSeasonAndAsk() {
        CHECK.sentence("26: with it a row gets a key, with one day more it does not");
        for (int day : new int[] {0, 1, 4, 42, 98}) {
            CompostKeys x = Check.onDay(lying(3), day);
            int longest = x.longest(0);
            CHECK.due("longest(0)", longest, day);
            x.season(0, longest + 1);
            CHECK.due("with one day more", x.ask(0), 102);
            x.season(0, longest);
            CHECK.due("with it", x.ask(0), 3);
        }
    }

    private static void scarcestOfKeysThatCouldBeGiven() {
        CHECK.sentence("28: the kind with the fewest keys that could be given now");
        for (int kind = 0; kind < 4; kind++) {
            CompostKeys x = new CompostKeys();
            x.ask(kind);
            CHECK.due("alive: " + kind, x.scarcest(), kind);
            x.delete(kind, 0);
            CHECK.due("not ripe: " + kind, x.scarcest(), kind);
            x.pass(4);
            CHECK.due("a day too soon: " + kind, x.scarcest(), kind);
            x.pass(1);
            CHECK.due("ripe: " + kind, x.scarcest(), 0);
            x.want(kind, 0);
            x.set(1, 1);
            x.delete(kind, 0);
            CHECK.due("worn out: " + kind, x.scarcest(), kind);
        }
        CompostKeys two = Check.allGiven(1);
        two.ask(0);
        two.ask(3);
        CHECK.due("none of 1, 15 of 0 and 3", two.scarcest(), 1);
        CompostKeys ripe = new CompostKeys();
        ripe.season(2, 0);
        ripe.ask(2);
        ripe.ask(2);
        ripe.delete(2, 0);
        ripe.ask(1);
        ripe.ask(1);
        CHECK.due("14 fresh and 1 ripe of 2, 14 of 1", ripe.scarcest(), 1);
    }

    private static void scarcestOfSeveralTheLowest() {
        CHECK.sentence("28: of several the lowest");
        CompostKeys x = new CompostKeys();
        CHECK.due("all alike", x.scarcest(), 0);
        x.ask(3);
        x.ask(2);
        CHECK.due("2 and 3", x.scarcest(), 2);
        x.ask(1);
        CHECK.due("1 to 3", x.scarcest(), 1);
        x.ask(0);
        CHECK.due("all alike again", x.scarcest(), 0);
        CompostKeys none = new CompostKeys();
        for (int row = 0; row < 64; row++) {
            none.ask(row % 4);
        }
        CHECK.due("none at all", none.scarcest(), 0);
    }

    private static void shareOfRipeKeys() {
        CHECK.sentence("29: the ripe keys as a double, divided by all keys in piles");
        CompostKeys x = lying(3);
        CHECK.due("none of 1", x.ripeShare(), 0.0);
        x.pass(5);
        CHECK.due("1 of 1", x.ripeShare(), 1.0);
        x.delete(0, 4);
        CHECK.due("1 of 2", x.ripeShare(), 0.5);
        x.ask(3);
        x.delete(3, 0);
        CHECK.due("1 of 3, of two kinds", x.ripeShare(), 1.0 / 3.0);
        x.season(3, 0);
        CHECK.due("2 of 3", x.ripeShare(), 2.0 / 3.0);
        for (int key = 5; key <= 8; key++) {
            x.delete(0, key);
        }
        CHECK.due("2 of 7", x.ripeShare(), 2.0 / 7.0);
        x.pass(5);
        CHECK.due("7 of 7", x.ripeShare(), 1.0);
    }

    private static void shareWithoutKeysInPiles() {
        CHECK.sentence("29: 1.0 without these");
        CHECK.due("fresh keys alone", new CompostKeys().ripeShare(), 1.0);
        CHECK.due("alive ones", Check.allGiven(0).ripeShare(), 1.0);
        CHECK.due("worn out ones", Check.allWornOut(0).ripeShare(), 1.0);
        CompostKeys x = lying(3);
        x.bringBack(0, 3);
        CHECK.due("brought back", x.ripeShare(), 1.0);
    }

    private static void meanOfDays() {
        CHECK.sentence("30: the days together, as a float, divided by how many these are");
        CompostKeys x = lying(3);
        CHECK.due("0 days of 1", x.meanAge(0), 0.0f);
        x.pass(1);
        CHECK.due("1 day of 1", x.meanAge(0), 1.0f);
        x.delete(0, 4);
        CHECK.due("1 day of 2", x.meanAge(0), 0.5f);
        x.delete(0, 5);
        CHECK.due("1 day of 3", x.meanAge(0), 1.0f / 3.0f);
        x.pass(2);
        CHECK.due("7 days of 3", x.meanAge(0), 7.0f / 3.0f);
        x.turn(0);
        CHECK.due("turned", x.meanAge(0), 7.0f / 3.0f);
        x.bringBack(0, 4);
        CHECK.due("5 days of 2", x.meanAge(0), 2.5f);
        x.ask(1);
        x.delete(1, 0);
        x.pass(1);
        CHECK.due("of another kind", x.meanAge(1), 1.0f);
        CompostKeys last = Check.onDay(lying(0, 1, 2), 9998);
        last.pass(1);
        last.delete(0, 3);
        CHECK.due("29997 days of 4", last.meanAge(0), 29997.0f / 4.0f);
    }

    private static void meanWithoutKeys() {
        CHECK.sentence("30: 0.0f without any");
        CHECK.due("fresh keys alone", new CompostKeys().meanAge(0), 0.0f);
        CompostKeys x = lying(3);
        CHECK.due("of another kind", Check.onDay(x, 9).meanAge(1), 0.0f);
        x.ask(0);
        CHECK.due("given again", x.meanAge(0), 0.0f);
        CHECK.due("worn out ones", Check.onDay(Check.allWornOut(0), 9).meanAge(0), 0.0f);
    }

    private static void nothingIsChanged() {
        CHECK.sentence("what would be; nothing is changed");
        List<Consumer<CompostKeys>> looks = List.of(
                x -> x.ifAsked(0), x -> x.keyIn(0), x -> x.coming(0, 1), x -> x.coming(0, 16),
                x -> x.longest(0), x -> x.ifFollowed(0, 4, 1), x -> x.scarcest(),
                x -> x.ripeShare(), x -> x.meanAge(0), x -> x.digest());
        for (int i = 0; i < looks.size(); i++) {
            CHECK.leaves("look " + i, WhatWouldBeTest::piled, looks.get(i));
            CHECK.leaves("look " + i + " too soon", () -> lying(3, 4), looks.get(i));
        }
    }

    private static void lastDayDoesNotMatter() {
        CHECK.sentence("on the day 9999 all is told as before");
        CompostKeys x = Check.onDay(Check.allGiven(0), 9999);
        x.delete(0, 3);
        CHECK.due("ifAsked(0)", x.ifAsked(0), 102);
        CHECK.due("coming(0, 1)", x.coming(0, 1), NONE);
        CHECK.due("longest(0)", x.longest(0), 0);
        CHECK.due("ripeShare()", x.ripeShare(), 0.0);
        CHECK.due("meanAge(0)", x.meanAge(0), 0.0f);
        CHECK.due("scarcest()", x.scarcest(), 0);
    }

    private static void ofEachKindAndKey() {
        CHECK.sentence("23 to 26, 30: of each kind and each key");
        for (int kind = 0; kind < 4; kind++) {
            for (int key = 0; key < 16; key++) {
                CompostKeys x = Check.deleteAll(Check.allGiven(kind), kind, key);
                String row = "(" + kind + ") with key " + key;
                x.pass(4);
                CHECK.due("ifAsked" + row, x.ifAsked(kind), 102);
                CHECK.due("keyIn" + row, x.keyIn(kind), 1);
                CHECK.due("longest" + row, x.longest(kind), 4);
                CHECK.due("meanAge" + row, x.meanAge(kind), 4.0f);
                x.pass(1);
                CHECK.due("ripe: ifAsked" + row, x.ifAsked(kind), key);
                CHECK.due("ripe: keyIn" + row, x.keyIn(kind), 0);
                CHECK.due("ripe: coming" + row, x.coming(kind, 1), key);
                CHECK.due("ripe: ripeShare", x.ripeShare(), 1.0);
            }
        }
    }
}
