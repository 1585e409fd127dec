/** Promises 23 to 30: ifAsked, keyIn, coming, longest, ifFollowed, scarcest, ripeShare, meanAge. */
public final class ForecastTest {
    private static final Check CHECK = new Check("ForecastTest");

    public static void main(String[] args) {
        ifAskedTells();
        keyInTells();
        keyInIgnoresTheLastDay();
        comingTells();
        longestTells();
        ifFollowedTells();
        scarcestTells();
        sharesAndMeans();
        nothingIsChanged();
        wrongInputs();
        CHECK.end();
    }

    private static void ifAskedTells() {
        CompostKeys x = new CompostKeys();
        for (int key = 0; key < 16; key++) {
            CHECK.due("ifAsked(0)", x.ifAsked(0), key);
            x.ask(0);
        }
        CHECK.due("none is left", x.ifAsked(0), 101);
        x.delete(0, 12);
        CHECK.due("too soon", x.ifAsked(0), 102);
        x.pass(5);
        CHECK.due("ripe", x.ifAsked(0), 12);
        CHECK.due("nothing is counted", x.kindOf(0, 8), 0);
        CHECK.due("nothing is given", x.kindOf(0, 6), 16);
    }

    private static void keyInTells() {
        CompostKeys x = new CompostKeys();
        CHECK.due("fresh", x.keyIn(1), 0);
        for (int key = 0; key < 15; key++) {
            x.ask(1);
        }
        CHECK.due("one fresh", x.keyIn(1), 0);
        CompostKeys y = Check.allGiven(1);
        CHECK.due("none in the pile", y.keyIn(1), -1);
        y.delete(1, 3);
        CHECK.due("a whole season", y.keyIn(1), 5);
        y.pass(2);
        y.delete(1, 4);
        CHECK.due("the first of two", y.keyIn(1), 3);
        y.turn(1);
        CHECK.due("the first of two, turned", y.keyIn(1), 3);
        y.season(1, 99);
        CHECK.due("in a long season", y.keyIn(1), 97);
        y.season(1, 1);
        CHECK.due("ripe since yesterday", y.keyIn(1), 0);
    }

    private static void keyInIgnoresTheLastDay() {
        CompostKeys x = Check.allGiven(0);
        for (int i = 0; i < 101; i++) {
            x.pass(99);
        }
        x.delete(0, 0);
        CHECK.due("beyond the day 9999", x.keyIn(0), 5);
        CHECK.due("longest on the last day", x.longest(0), 0);
    }

    private static CompostKeys forComing() {
        CompostKeys x = Check.allGiven(3);
        Check.deleteAll(x, 3, 9, 2, 5);
        x.pass(5);
        x.want(3, 5);
        x.delete(3, 5);
        x.pass(5);
        Check.deleteAll(x, 3, 1);
        return x;
    }

    private static void dueComing(int rule, int... keys) {
        CompostKeys x = forComing();
        x.set(0, rule);
        for (int rank = 1; rank <= 16; rank++) {
            int due = rank <= keys.length ? keys[rank - 1] : -1;
            CHECK.due("rule " + rule + ": coming(3, " + rank + ")", x.coming(3, rank), due);
        }
        for (int key : keys) {
            CHECK.due("rule " + rule + ": ask(3)", x.ask(3), key);
        }
        CHECK.due("rule " + rule + ": ask(3) then", x.ask(3), 102);
    }

    private static void comingTells() {
        dueComing(0, 5, 2, 9);
        dueComing(1, 5, 2, 9);
        dueComing(2, 2, 5, 9);
        dueComing(3, 2, 9, 5);
        CompostKeys x = new CompostKeys();
        x.season(0, 0);
        Check.run(x, "a0;a0;d0.0;d0.1");
        dueFour(x, 0, 2, 3, 4, 15, 1, 0);
        dueFour(x, 1, 1, 0, 2, 13, 14, 15);
        dueFour(x, 2, 0, 1, 2, 13, 14, 15);
        dueFour(x, 3, 2, 3, 4, 15, 0, 1);
    }

    /** The ranks 1 to 3 and 14 to 16. */
    private static void dueFour(CompostKeys x, int rule, int... keys) {
        int[] ranks = {1, 2, 3, 14, 15, 16};
        x.set(0, rule);
        for (int i = 0; i < ranks.length; i++) {
            CHECK.due("rule " + rule + ": coming(0, " + ranks[i] + ")", x.coming(0, ranks[i]),
                    keys[i]);
        }
    }

    private static void longestTells() {
        CompostKeys x = new CompostKeys();
        CHECK.due("fresh", x.longest(2), 99);
        for (int key = 0; key < 15; key++) {
            x.ask(2);
        }
        x.delete(2, 0);
        CHECK.due("one fresh", x.longest(2), 99);
        CompostKeys y = Check.allGiven(2);
        CHECK.due("none in the pile", y.longest(2), -1);
        y.delete(2, 0);
        CHECK.due("only without a season", y.longest(2), 0);
        y.pass(7);
        y.delete(2, 1);
        CHECK.due("by the oldest", y.longest(2), 7);
        y.turn(2);
        CHECK.due("by the oldest, turned", y.longest(2), 7);
        y.pass(92);
        CHECK.due("99 days", y.longest(2), 99);
        y.pass(1);
        CHECK.due("no more than 99", y.longest(2), 99);
        y.season(2, 0);
        CHECK.due("whatever the season is", y.longest(2), 99);
    }

    private static void ifFollowedTells() {
        CompostKeys x = new CompostKeys();
        x.season(0, 0);
        CHECK.due("fresh", x.ifFollowed(0, 4, 1), 1);
        x.want(0, 4);
        CHECK.due("right", x.ifFollowed(0, 4, 1), 0);
        CHECK.due("not yet", x.ifFollowed(0, 4, 2), 1);
        x.delete(0, 4);
        CHECK.due("in the pile", x.ifFollowed(0, 4, 1), 1);
        x.want(0, 4);
        CHECK.due("a mistake", x.ifFollowed(0, 4, 1), 2);
        x.set(1, 1);
        x.delete(0, 4);
        CHECK.due("worn out, lesser round", x.ifFollowed(0, 4, 1), 1);
        CHECK.due("worn out", x.ifFollowed(0, 4, 2), 1);
        CHECK.due("nothing is counted", x.count(5), 0);
    }

    private static void scarcestTells() {
        CompostKeys x = new CompostKeys();
        CHECK.due("all alike", x.scarcest(), 0);
        x.ask(3);
        CHECK.due("15 of kind 3", x.scarcest(), 3);
        x.ask(1);
        CHECK.due("the lowest of two", x.scarcest(), 1);
        x.delete(1, 0);
        CHECK.due("not ripe counts not", x.scarcest(), 1);
        x.pass(5);
        CHECK.due("ripe counts", x.scarcest(), 3);
    }

    private static void sharesAndMeans() {
        CompostKeys x = Check.allGiven(0);
        CHECK.due("no key lies", x.ripeShare(), 1.0);
        CHECK.due("no key lies", x.meanAge(0), 0.0f);
        x.delete(0, 0);
        CHECK.due("none is ripe", x.ripeShare(), 0.0);
        x.pass(6);
        x.ask(2);
        Check.deleteAll(x, 0, 1);
        x.delete(2, 0);
        CHECK.due("one of three", x.ripeShare(), 1.0 / 3.0);
        CHECK.due("3 days", x.meanAge(0), 3.0f);
        CHECK.due("0 days", x.meanAge(2), 0.0f);
        x.pass(1);
        x.delete(0, 2);
        CHECK.due("8 days of three", x.meanAge(0), 8.0f / 3.0f);
        CHECK.due("1 day", x.meanAge(2), 1.0f);
        CHECK.due("another kind", x.meanAge(1), 0.0f);
        x.pass(9);
        CHECK.due("all are ripe", x.ripeShare(), 1.0);
    }

    private static void nothingIsChanged() {
        CompostKeys x = forComing();
        long before = x.digest();
        x.ifAsked(3);
        x.keyIn(3);
        x.coming(3, 16);
        x.longest(3);
        x.ifFollowed(3, 5, 1);
        x.scarcest();
        x.ripeShare();
        x.meanAge(3);
        CHECK.due("the digest", x.digest(), before);
    }

    private static void wrongInputs() {
        CompostKeys x = forComing();
        for (int bad : new int[] {-1, 4, Integer.MIN_VALUE, Integer.MAX_VALUE}) {
            CHECK.noIndex("ifAsked(" + bad + ")", x, () -> x.ifAsked(bad));
            CHECK.noIndex("keyIn(" + bad + ")", x, () -> x.keyIn(bad));
            CHECK.noIndex("coming(" + bad + ", 0)", x, () -> x.coming(bad, 0));
            CHECK.noIndex("longest(" + bad + ")", x, () -> x.longest(bad));
            CHECK.noIndex("ifFollowed(" + bad + ", 0, 0)", x, () -> x.ifFollowed(bad, 0, 0));
            CHECK.noIndex("meanAge(" + bad + ")", x, () -> x.meanAge(bad));
        }
        for (int bad : new int[] {-1, 16, Integer.MIN_VALUE, Integer.MAX_VALUE}) {
            CHECK.noIndex("ifFollowed(0, " + bad + ", 0)", x, () -> x.ifFollowed(0, bad, 0));
        }
        for (int bad : new int[] {0, -1, Integer.MIN_VALUE}) {
            CHECK.noArgument("ifFollowed(0, 0, " + bad + ")", x, () -> x.ifFollowed(0, 0, bad));
        }
        for (int bad : new int[] {0, -1, 17, Integer.MIN_VALUE, Integer.MAX_VALUE}) {
            CHECK.noArgument("coming(0, " + bad + ")", x, () -> x.coming(0, bad));
        }
    }
}
