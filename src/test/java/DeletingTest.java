/** Promises 4 to 6 and the sentences under "Deleting", one method for each. */
public final class DeletingTest {
    private static final Check CHECK = new Check("DeletingTest");
    private static final int[] ALL = {0, 1, 2, 3, 4, 5, 6, 7, 8, 9, 10, 11, 12, 13, 14, 15};

    public static void main(String[] args) {
        onTheTop();
        onThisDay();
        wornOutInTheRoundOfTheSetting();
        wornOutAboveTheSetting();
        wornOutIsNotInThePile();
        smallerSettingWearsOutNothingAtOnce();
        settingAsItIsAtTheDeletion();
        greaterSettingRevivesNothing();
        deletedOnlyIfAlive();
        deleteCounts();
        broughtBackInTime();
        broughtBackBySettingAsItIsNow();
        broughtBackWithTheSameRound();
        broughtBackOutOfThePile();
        broughtBackOnlyFromThePile();
        broughtBackEvenIfRipe();
        broughtBackAboveTheSetting();
        broughtBackCounts();
        turnedTheOtherWay();
        turnedTwice();
        turnedLeavesDays();
        turnedAnswers();
        CHECK.end();
    }

    private static void duePile(CompostKeys x, int kind, int... keys) {
        for (int place = 0; place < keys.length; place++) {
            CHECK.due("pile(" + kind + ", " + place + ")", x.pile(kind, place), keys[place]);
            CHECK.due("the place of " + keys[place], x.keyOf(kind, keys[place], 2), place);
        }
        CHECK.due("pile(" + kind + ", " + keys.length + ")", x.pile(kind, keys.length),
                CompostKeys.NONE);
    }

    private static void onTheTop() {
        CHECK.sentence("its key comes on the top of the pile of its kind");
        CompostKeys x = Check.allGiven(3);
        x.ask(0);
        CHECK.due("delete(3, 15)", x.delete(3, 15), 0);
        duePile(x, 3, 15);
        CHECK.due("delete(3, 0)", x.delete(3, 0), 0);
        duePile(x, 3, 0, 15);
        x.delete(0, 0);
        duePile(x, 3, 0, 15);
        duePile(x, 0, 0);
        Check.deleteAll(x, 3, 7, 8, 1, 2, 3, 4, 5, 6, 9, 10, 11, 12, 13, 14);
        duePile(x, 3, 14, 13, 12, 11, 10, 9, 6, 5, 4, 3, 2, 1, 8, 7, 0, 15);
    }

    private static void onThisDay() {
        CHECK.sentence("on this day");
        CompostKeys x = Check.deleteAll(Check.allGiven(1), 1, 4);
        CHECK.due("on the day 0", x.keyOf(1, 4, 3), 0);
        x.pass(7);
        x.delete(1, 5);
        CHECK.due("on the day 7", x.keyOf(1, 5, 3), 0);
        CHECK.due("on the day 0, told on the day 7", x.keyOf(1, 4, 3), 7);
        x.pass(1);
        CHECK.due("on the day 7, told on the day 8", x.keyOf(1, 5, 3), 1);
    }

    private static void wornOutInTheRoundOfTheSetting() {
        CHECK.sentence("but if its round is setting 1, the key is worn out");
        for (int rounds = 1; rounds <= 9; rounds++) {
            CompostKeys x = new CompostKeys();
            x.season(2, 0);
            x.set(1, rounds);
            for (int round = 1; round <= rounds; round++) {
                CHECK.due("want(2, 15)", x.want(2, 15), round);
                int worn = round == rounds ? 1 : 0;
                CHECK.due("of " + rounds + " rounds, in " + round, x.delete(2, 15), worn);
                CHECK.due("then", x.keyOf(2, 15, 0), 2 + worn);
            }
            CHECK.due("of " + rounds + " rounds: wanted then", x.want(2, 15), 104);
        }
        CompostKeys first = new CompostKeys();
        first.season(0, 0);
        for (int round = 1; round <= 4; round++) {
            first.want(0, 0);
            CHECK.due("at first 4, in " + round, first.delete(0, 0), round / 4);
        }
    }

    /** Key 5 of kind 0 lives in round 3. */
    private static CompostKeys inRoundThree() {
        CompostKeys x = new CompostKeys();
        x.season(0, 0);
        x.want(0, 5);
        x.delete(0, 5);
        x.want(0, 5);
        x.delete(0, 5);
        x.want(0, 5);
        return x;
    }

    private static void wornOutAboveTheSetting() {
        CHECK.sentence("one whose round is above it is worn out when its row is deleted, too");
        int[] worn = {1, 1, 1, 0, 0, 0, 0, 0, 0};
        for (int rounds = 1; rounds <= 9; rounds++) {
            CompostKeys x = inRoundThree();
            x.set(1, rounds);
            CHECK.due("round 3 of " + rounds, x.delete(0, 5), worn[rounds - 1]);
            CHECK.due("round 3 of " + rounds + ", then", x.keyOf(0, 5, 0), 2 + worn[rounds - 1]);
        }
    }

    private static void wornOutIsNotInThePile() {
        CHECK.sentence("worn out: it comes on no pile, and is given no more");
        CompostKeys x = Check.deleteAll(Check.allGiven(0), 0, 3, 4);
        x.set(1, 1);
        x.delete(0, 5);
        duePile(x, 0, 4, 3);
        for (int what = 2; what <= 4; what++) {
            CHECK.due("keyOf(0, 5, " + what + ")", x.keyOf(0, 5, what), CompostKeys.NONE);
        }
        CHECK.due("keys worn out", x.kindOf(0, 5), 1);
        CHECK.due("its round stays", x.keyOf(0, 5, 1), 1);
        x.pass(99);
        CHECK.due("ask(0)", x.ask(0), 4);
        CHECK.due("ask(0)", x.ask(0), 3);
        CHECK.due("ask(0)", x.ask(0), 101);
    }

    private static void smallerSettingWearsOutNothingAtOnce() {
        CHECK.sentence("A smaller setting 1 wears out no key at once");
        CompostKeys x = inRoundThree();
        x.want(0, 6);
        x.delete(0, 6);
        x.set(1, 1);
        CHECK.due("alive above it", x.keyOf(0, 5, 0), 1);
        CHECK.due("in the pile at it", x.keyOf(0, 6, 0), 2);
        duePile(x, 0, 6);
        x.pass(99);
        CHECK.due("worn out days later", x.kindOf(0, 5), 0);
        CHECK.due("ripe at it", x.kindOf(0, 4), 1);
    }

    private static void settingAsItIsAtTheDeletion() {
        CHECK.sentence("setting 1 as it is when the row is deleted");
        CompostKeys x = inRoundThree();
        x.set(1, 2);
        x.set(1, 4);
        CHECK.due("smaller in between", x.delete(0, 5), 0);
        CompostKeys y = inRoundThree();
        y.set(1, 9);
        y.set(1, 3);
        CHECK.due("greater in between", y.delete(0, 5), 1);
    }

    private static void greaterSettingRevivesNothing() {
        CHECK.sentence("a greater setting 1 brings back no key that is worn out");
        CompostKeys x = Check.allWornOut(1);
        x.set(1, 9);
        CHECK.due("keys worn out", x.kindOf(1, 5), 16);
        CHECK.due("ask(1)", x.ask(1), 101);
        CHECK.due("bringBack throws", Check.thrown(() -> x.bringBack(1, 0)), Check.STATE);
    }

    private static void deletedOnlyIfAlive() {
        CHECK.sentence("4: IllegalStateException if the key is not alive");
        CHECK.refuses("delete of a fresh one", Check.STATE, () -> inRoundThree(),
                x -> x.delete(0, 4));
        CHECK.refuses("delete of one in the pile", Check.STATE,
                () -> Check.deleteAll(inRoundThree(), 0, 5), x -> x.delete(0, 5));
        CHECK.refuses("delete of one worn out", Check.STATE, () -> Check.allWornOut(0),
                x -> x.delete(0, 15));
        CHECK.refuses("delete of the same key of another kind", Check.STATE,
                () -> inRoundThree(), x -> x.delete(1, 5));
    }

    private static void deleteCounts() {
        CHECK.sentence("4: 1 if the key is worn out by it, otherwise 0; rows deleted so far");
        CompostKeys x = inRoundThree();
        CHECK.due("rows deleted", x.kindOf(0, 7), 2);
        CHECK.due("on the pile", x.delete(0, 5), 0);
        CHECK.due("rows deleted", x.kindOf(0, 7), 3);
        x.want(0, 5);
        CHECK.due("worn out", x.delete(0, 5), 1);
        CHECK.due("rows deleted", x.kindOf(0, 7), 4);
        CHECK.due("alive by account", x.count(2), 0);
    }

    private static void dueBack(int days, int setting, Integer round) {
        CompostKeys x = Check.allGiven(0);
        x.set(2, setting);
        x.delete(0, 7);
        Check.onDay(x, days);
        String call = "setting 2 is " + setting + ", after " + days + " days: bringBack(0, 7)";
        if (round == null) {
            CHECK.throwing(call, Check.STATE, x, () -> x.bringBack(0, 7));
        } else {
            CHECK.due(call, x.bringBack(0, 7), round);
        }
    }

    private static void broughtBackInTime() {
        CHECK.sentence("as long as it was deleted at most setting 2 days ago");
        for (int setting = 0; setting <= 20; setting++) {
            if (setting > 0) {
                dueBack(setting - 1, setting, 1);
            }
            dueBack(setting, setting, 1);
            dueBack(setting + 1, setting, null);
        }
        CompostKeys x = Check.deleteAll(Check.allGiven(0), 0, 7, 8);
        x.pass(3);
        CHECK.due("at first 3 days", x.bringBack(0, 7), 1);
        x.pass(1);
        CHECK.throwing("at first no 4 days", Check.STATE, x, () -> x.bringBack(0, 8));
    }

    private static void broughtBackBySettingAsItIsNow() {
        CHECK.sentence("setting 2 as it is when the row is brought back");
        CompostKeys x = Check.deleteAll(Check.allGiven(0), 0, 7);
        x.pass(3);
        x.set(2, 2);
        CHECK.throwing("by a smaller one", Check.STATE, x, () -> x.bringBack(0, 7));
        x.pass(17);
        x.set(2, 19);
        CHECK.throwing("one day too small", Check.STATE, x, () -> x.bringBack(0, 7));
        x.set(2, 20);
        CHECK.due("by a greater one", x.bringBack(0, 7), 1);
        x.delete(0, 7);
        x.pass(1);
        CHECK.due("from the latest deletion on", x.bringBack(0, 7), 1);
    }

    private static void broughtBackWithTheSameRound() {
        CHECK.sentence("the key is alive again, with the same round");
        CompostKeys x = inRoundThree();
        x.delete(0, 5);
        CHECK.due("bringBack(0, 5)", x.bringBack(0, 5), 3);
        CHECK.due("alive", x.keyOf(0, 5, 0), 1);
        CHECK.due("its round", x.keyOf(0, 5, 1), 3);
        CHECK.due("its reference is right again", x.follow(0, 5, 3), 0);
        CHECK.due("deleted once more", x.delete(0, 5), 0);
    }

    private static void broughtBackOutOfThePile() {
        CHECK.sentence("5: a row that is brought back leaves the pile");
        CompostKeys x = Check.deleteAll(Check.allGiven(1), 1, 0, 5, 15, 9);
        x.bringBack(1, 5);
        duePile(x, 1, 9, 15, 0);
        x.bringBack(1, 9);
        duePile(x, 1, 15, 0);
        x.bringBack(1, 0);
        duePile(x, 1, 15);
        x.bringBack(1, 15);
        duePile(x, 1);
        Check.deleteAll(x, 1, 5, 0);
        duePile(x, 1, 0, 5);
    }

    private static void broughtBackOnlyFromThePile() {
        CHECK.sentence("5: IllegalStateException if the key is not in the pile");
        CHECK.refuses("bringBack of a fresh one", Check.STATE, () -> inRoundThree(),
                x -> x.bringBack(0, 4));
        CHECK.refuses("bringBack of one alive", Check.STATE, () -> inRoundThree(),
                x -> x.bringBack(0, 5));
        CHECK.refuses("bringBack of one worn out", Check.STATE, () -> Check.allWornOut(0),
                x -> x.bringBack(0, 15));
        CompostKeys given = Check.deleteAll(inRoundThree(), 0, 5);
        given.want(0, 5);
        CHECK.throwing("bringBack of one given again", Check.STATE, given,
                () -> given.bringBack(0, 5));
        CHECK.refuses("bringBack too late", Check.STATE,
                () -> Check.onDay(Check.deleteAll(inRoundThree(), 0, 5), 4),
                x -> x.bringBack(0, 5));
    }

    private static void broughtBackEvenIfRipe() {
        CHECK.sentence("as long as its key lies in the pile: ripe or not");
        CompostKeys x = Check.deleteAll(Check.allGiven(2), 2, 6, 7);
        x.pass(3);
        x.season(2, 3);
        CHECK.due("ripe", x.bringBack(2, 6), 1);
        x.season(2, 4);
        CHECK.due("not ripe", x.bringBack(2, 7), 1);
    }

    private static void broughtBackAboveTheSetting() {
        CHECK.sentence("brought back with a round at or above setting 1");
        CompostKeys x = inRoundThree();
        x.delete(0, 5);
        x.set(1, 2);
        CHECK.due("bringBack(0, 5)", x.bringBack(0, 5), 3);
        CHECK.due("worn out by the next deletion", x.delete(0, 5), 1);
    }

    private static void broughtBackCounts() {
        CHECK.sentence("10: rows brought back so far");
        CompostKeys x = inRoundThree();
        for (int back = 1; back <= 2; back++) {
            x.delete(0, 5);
            x.bringBack(0, 5);
            CHECK.due("rows brought back", x.kindOf(0, 10), back);
        }
        CHECK.due("keys given", x.kindOf(0, 6), 3);
        CHECK.due("rows deleted", x.kindOf(0, 7), 4);
        CHECK.due("alive by account", x.count(2), 1);
    }

    private static void turnedTheOtherWay() {
        CHECK.sentence("to put its keys in the other order: the bottom one on the top");
        for (int kind = 0; kind < 4; kind++) {
            CompostKeys x = Check.deleteAll(Check.allGiven(kind), kind, 3, 15);
            x.turn(kind);
            duePile(x, kind, 3, 15);
            Check.deleteAll(x, kind, 8);
            x.turn(kind);
            duePile(x, kind, 15, 3, 8);
            x.turn((kind + 1) % 4);
            duePile(x, kind, 15, 3, 8);
        }
        CompostKeys full = Check.deleteAll(Check.allGiven(0), 0, ALL);
        full.turn(0);
        duePile(full, 0, ALL);
    }

    private static void turnedTwice() {
        CHECK.sentence("turned twice, a pile is as it was");
        CompostKeys x = Check.deleteAll(Check.allGiven(1), 1, 4, 2, 9, 7);
        x.turn(1);
        x.turn(1);
        duePile(x, 1, 7, 9, 2, 4);
    }

    private static void turnedLeavesDays() {
        CHECK.sentence("a pile that is turned: the keys ripen as before");
        CompostKeys x = Check.deleteAll(Check.allGiven(1), 1, 4);
        x.pass(5);
        x.delete(1, 2);
        x.turn(1);
        CHECK.due("days of 4", x.keyOf(1, 4, 3), 5);
        CHECK.due("days of 2", x.keyOf(1, 2, 3), 0);
        CHECK.due("ripe keys", x.kindOf(1, 4), 1);
        CHECK.due("rounds", x.keyOf(1, 4, 1), 1);
        CHECK.due("ask(1)", x.ask(1), 4);
    }

    private static void turnedAnswers() {
        CHECK.sentence("6: the key that is on the top then; NONE if the pile is empty");
        CompostKeys x = Check.allGiven(3);
        CHECK.due("an empty pile", x.turn(3), CompostKeys.NONE);
        CHECK.due("an empty pile is saved", x.count(9), 6);
        x.delete(3, 0);
        CHECK.due("one key", x.turn(3), 0);
        x.delete(3, 15);
        CHECK.due("two keys", x.turn(3), 0);
        CHECK.due("two keys again", x.turn(3), 15);
        CHECK.due("fresh keys alone", x.turn(2), CompostKeys.NONE);
    }
}
