/** Promises 8 to 10: pass, season, set. */
public final class DaysTest {
    private static final Check CHECK = new Check("DaysTest");

    public static void main(String[] args) {
        passRipens();
        passEndsOnTheLastDay();
        seasonRipens();
        setChanges();
        wrongInputs();
        CHECK.end();
    }

    private static void passRipens() {
        CompostKeys x = Check.allGiven(0);
        x.ask(1);
        Check.deleteAll(x, 0, 3, 4);
        x.delete(1, 0);
        CHECK.due("pass(4)", x.pass(4), 0);
        x.delete(0, 5);
        CHECK.due("pass(1)", x.pass(1), 3);
        CHECK.due("the day", x.count(0), 5);
        CHECK.due("pass(99)", x.pass(99), 4);
        CHECK.due("the day then", x.count(0), 104);
    }

    private static void passEndsOnTheLastDay() {
        CompostKeys x = new CompostKeys();
        for (int i = 0; i < 101; i++) {
            x.pass(99);
        }
        CHECK.due("the day 9999 is reached", x.count(0), 9999);
        CHECK.noState("pass(1) on it", x, () -> x.pass(1));
        x.undo();
        x.pass(98);
        CHECK.noState("pass(2) on the day before it", x, () -> x.pass(2));
        CHECK.noState("pass(99) on the day before it", x, () -> x.pass(99));
        CHECK.noArgument("pass(100) on the day before it", x, () -> x.pass(100));
        CHECK.due("pass(1) on the day before it", x.pass(1), 0);
        CHECK.due("the last day", x.count(0), 9999);
    }

    private static void seasonRipens() {
        CompostKeys x = Check.allGiven(3);
        x.delete(3, 2);
        x.pass(2);
        CHECK.due("season(3, 3)", x.season(3, 3), 5);
        CHECK.due("not ripe yet", x.kindOf(3, 4), 0);
        CHECK.due("season(3, 2)", x.season(3, 2), 3);
        CHECK.due("ripe by the season as it is now", x.kindOf(3, 4), 1);
        CHECK.due("season(3, 99)", x.season(3, 99), 2);
        CHECK.due("no longer ripe", x.kindOf(3, 4), 0);
        CHECK.due("season(3, 0)", x.season(3, 0), 99);
        CHECK.due("other seasons stay", x.kindOf(2, 0), 5);
    }

    private static void setChanges() {
        CompostKeys x = new CompostKeys();
        int[] first = {0, 4, 3};
        int[] least = {0, 1, 0};
        int[] most = {3, 9, 20};
        for (int setting = 0; setting < 3; setting++) {
            int number = setting;
            CHECK.due("to the most", x.set(number, most[number]), first[number]);
            CHECK.due("to the least", x.set(number, least[number]), most[number]);
            CHECK.due("is the least", x.setting(number), least[number]);
            CHECK.noArgument("above", x, () -> x.set(number, most[number] + 1));
            CHECK.noArgument("below", x, () -> x.set(number, least[number] - 1));
        }
        CHECK.due("saved states", x.count(9), 6);
    }

    private static void wrongInputs() {
        CompostKeys x = new CompostKeys();
        for (int bad : new int[] {0, -1, 100, Integer.MIN_VALUE, Integer.MAX_VALUE}) {
            CHECK.noArgument("pass(" + bad + ")", x, () -> x.pass(bad));
        }
        for (int bad : new int[] {-1, 4, Integer.MAX_VALUE}) {
            CHECK.noIndex("season(" + bad + ", -1)", x, () -> x.season(bad, -1));
        }
        for (int bad : new int[] {-1, 100, Integer.MIN_VALUE, Integer.MAX_VALUE}) {
            CHECK.noArgument("season(0, " + bad + ")", x, () -> x.season(0, bad));
        }
        for (int bad : new int[] {-1, 3, Integer.MIN_VALUE, Integer.MAX_VALUE}) {
            CHECK.noIndex("set(" + bad + ", -1)", x, () -> x.set(bad, -1));
        }
    }
}
