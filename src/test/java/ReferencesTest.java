/** Promises 7 and 27 and the sentences under "References", one method for each. */
public final class ReferencesTest {
    private static final Check CHECK = new Check("ReferencesTest");
    private static final int RIGHT = 0;
    private static final int DEAD = 1;
    private static final int MISTAKE = 2;

    public static void main(String[] args) {
        rightWithThisRound();
        deadIfNotAlive();
        deadIfNeverGivenWithThisRound();
        mistakeWithAGreaterRound();
        ofItsKindAndKey();
        rightAgainIfBroughtBack();
        followCounts();
        ifFollowedCountsNothing();
        roundBelowOne();
        CHECK.end();
    }

    /** Both calls answer alike. */
    private static void due(CompostKeys x, int kind, int key, int round, int want) {
        String reference = "(" + kind + ", " + key + ", " + round + ")";
        CHECK.due("ifFollowed" + reference, x.ifFollowed(kind, key, round), want);
        CHECK.due("follow" + reference, x.follow(kind, key, round), want);
    }

    /** Key 15 of kind 3 lives in the round. */
    private static CompostKeys inRound(int round) {
        CompostKeys x = new CompostKeys();
        x.season(3, 0);
        x.set(1, 9);
        x.want(3, 15);
        for (int before = 1; before < round; before++) {
            x.delete(3, 15);
            x.want(3, 15);
        }
        return x;
    }

    private static void rightWithThisRound() {
        CHECK.sentence("right (0) if the key is alive with this round");
        for (int round = 1; round <= 9; round++) {
            due(inRound(round), 3, 15, round, RIGHT);
        }
    }

    private static void deadIfNotAlive() {
        CHECK.sentence("dead (1) if the key is not alive");
        CompostKeys x = inRound(2);
        due(x, 3, 0, 1, DEAD);
        x.delete(3, 15);
        due(x, 3, 15, 1, DEAD);
        due(x, 3, 15, 2, DEAD);
        due(x, 3, 15, 3, DEAD);
        x.pass(9);
        due(x, 3, 15, 2, DEAD);
        x.want(3, 15);
        x.set(1, 1);
        x.delete(3, 15);
        due(x, 3, 15, 1, DEAD);
        due(x, 3, 15, 3, DEAD);
        due(x, 3, 15, 4, DEAD);
    }

    private static void deadIfNeverGivenWithThisRound() {
        CHECK.sentence("or was never given with this round");
        for (int round = 1; round <= 9; round++) {
            CompostKeys x = inRound(round);
            due(x, 3, 15, round + 1, DEAD);
            due(x, 3, 15, 10, DEAD);
            due(x, 3, 15, Check.MAX, DEAD);
        }
    }

    private static void mistakeWithAGreaterRound() {
        CHECK.sentence("a mistake (2) if the key is alive with a greater round");
        for (int round = 2; round <= 9; round++) {
            CompostKeys x = inRound(round);
            due(x, 3, 15, round - 1, MISTAKE);
            due(x, 3, 15, 1, MISTAKE);
        }
    }

    private static void ofItsKindAndKey() {
        CHECK.sentence("A reference tells a kind, a key and a round");
        CompostKeys x = inRound(2);
        due(x, 2, 15, 2, DEAD);
        due(x, 3, 14, 2, DEAD);
        x.want(2, 15);
        x.want(3, 14);
        due(x, 2, 15, 1, RIGHT);
        due(x, 3, 14, 1, RIGHT);
        due(x, 3, 15, 1, MISTAKE);
        x.want(0, 0);
        due(x, 0, 0, 1, RIGHT);
        due(x, 3, 0, 1, DEAD);
    }

    private static void rightAgainIfBroughtBack() {
        CHECK.sentence("a key that is brought back is alive with the same round");
        CompostKeys x = inRound(2);
        x.delete(3, 15);
        x.bringBack(3, 15);
        due(x, 3, 15, 1, MISTAKE);
        due(x, 3, 15, 2, RIGHT);
        due(x, 3, 15, 3, DEAD);
    }

    private static void dueCounts(CompostKeys x, int followed, int mistakes, int dead) {
        CHECK.due("references followed", x.count(5), followed);
        CHECK.due("mistakes", x.count(6), mistakes);
        CHECK.due("dead references", x.count(7), dead);
    }

    private static void followCounts() {
        CHECK.sentence("7: Undoable (it is counted)");
        CompostKeys x = inRound(2);
        dueCounts(x, 0, 0, 0);
        x.follow(3, 15, 2);
        dueCounts(x, 1, 0, 0);
        x.follow(3, 15, 1);
        dueCounts(x, 2, 1, 0);
        x.follow(3, 15, 3);
        dueCounts(x, 3, 1, 1);
        x.follow(0, 0, 1);
        dueCounts(x, 4, 1, 2);
        x.undo();
        dueCounts(x, 3, 1, 1);
        x.undo();
        x.undo();
        dueCounts(x, 1, 0, 0);
        CHECK.due("the round stays", x.keyOf(3, 15, 1), 2);
        CHECK.due("alive", x.keyOf(3, 15, 0), 1);
    }

    private static void ifFollowedCountsNothing() {
        CHECK.sentence("27: Tells what a reference is; nothing is changed");
        for (int round = 1; round <= 3; round++) {
            int told = round;
            CHECK.leaves("ifFollowed(3, 15, " + told + ")", () -> inRound(2),
                    x -> x.ifFollowed(3, 15, told));
        }
    }

    private static void roundBelowOne() {
        CHECK.sentence("7, 27: IllegalArgumentException if round is below 1");
        for (int bad : new int[] {0, -1, Check.MIN}) {
            CHECK.refuses("follow(3, 15, " + bad + ")", Check.ARGUMENT, () -> inRound(2),
                    x -> x.follow(3, 15, bad));
            CHECK.refuses("ifFollowed(3, 15, " + bad + ")", Check.ARGUMENT, () -> inRound(2),
                    x -> x.ifFollowed(3, 15, bad));
            CHECK.refuses("follow(3, 0, " + bad + ") of a fresh key", Check.ARGUMENT,
                    () -> inRound(2), x -> x.follow(3, 0, bad));
        }
    }
}
