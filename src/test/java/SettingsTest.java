/** Promises 8 to 10 and 22, "Settings", and the day 9999, one method for each sentence. */
public final class SettingsTest {
    private static final Check CHECK = new Check("SettingsTest");
    private static final int[] AT_FIRST = {0, 4, 3};
    private static final int[] LEAST = {0, 1, 0};
    private static final int[] MOST = {3, 9, 20};

    public static void main(String[] args) {
        settingsAtFirst();
        settingsRange();
        settingsAreApart();
        setAnswersThePreviousValue();
        setOutOfRange();
        seasonRange();
        seasonAnswersTheOneBefore();
        seasonOutOfRange();
        passRange();
        passOutOfRange();
        passAnswersRipeKeysOfAllPiles();
        upToTheLastDay();
        noDayAboveTheLast();
        lastDayByUndo();
        CHECK.end();
    }

    private static void settingsAtFirst() {
        CHECK.sentence("Settings: 0 at first 0; 1 at first 4; 2 at first 3");
        CompostKeys x = new CompostKeys();
        for (int setting = 0; setting <= 2; setting++) {
            CHECK.due("setting(" + setting + ")", x.setting(setting), AT_FIRST[setting]);
        }
    }

    private static void settingsRange() {
        CHECK.sentence("0: 0 to 3; 1: 1 to 9; 2: 0 to 20");
        for (int setting = 0; setting <= 2; setting++) {
            for (int value = LEAST[setting]; value <= MOST[setting]; value++) {
                CompostKeys x = new CompostKeys();
                CHECK.due("set(" + setting + ", " + value + ")", x.set(setting, value),
                        AT_FIRST[setting]);
                CHECK.due("setting(" + setting + ")", x.setting(setting), value);
            }
        }
    }

    private static void settingsAreApart() {
        CHECK.sentence("10: Changes a setting - and no other");
        for (int changed = 0; changed <= 2; changed++) {
            CompostKeys x = new CompostKeys();
            x.set(changed, 2);
            for (int setting = 0; setting <= 2; setting++) {
                CHECK.due("set(" + changed + ", 2): setting(" + setting + ")", x.setting(setting),
                        setting == changed ? 2 : AT_FIRST[setting]);
            }
        }
    }

    private static void setAnswersThePreviousValue() {
        CHECK.sentence("10: Returns the previous value");
        CompostKeys x = new CompostKeys();
        for (int setting = 0; setting <= 2; setting++) {
            x.set(setting, MOST[setting]);
            CHECK.due("to the least", x.set(setting, LEAST[setting]), MOST[setting]);
            CHECK.due("to the same", x.set(setting, LEAST[setting]), LEAST[setting]);
            CHECK.due("to the most", x.set(setting, MOST[setting]), LEAST[setting]);
        }
    }

    private static void setOutOfRange() {
        CHECK.sentence("10: IllegalArgumentException if value is out of range");
        for (int setting = 0; setting <= 2; setting++) {
            int changed = setting;
            int[] bad = {LEAST[setting] - 1, MOST[setting] + 1, Check.MIN, Check.MAX};
            for (int value : bad) {
                CHECK.refuses("set(" + setting + ", " + value + ")", Check.ARGUMENT,
                        CompostKeys::new, x -> x.set(changed, value));
            }
        }
    }

    private static void seasonRange() {
        CHECK.sentence("9: days: 0 to 99");
        for (int kind = 0; kind < 4; kind++) {
            CompostKeys x = new CompostKeys();
            int before = 5;
            for (int days = 0; days <= 99; days++) {
                CHECK.due("season(" + kind + ", " + days + ")", x.season(kind, days), before);
                before = days;
            }
            CHECK.due("kindOf(" + kind + ", 0)", x.kindOf(kind, 0), 99);
        }
    }

    private static void seasonAnswersTheOneBefore() {
        CHECK.sentence("9: Returns the season before - of this kind");
        CompostKeys x = new CompostKeys();
        for (int kind = 0; kind < 4; kind++) {
            CHECK.due("season(" + kind + ", 9)", x.season(kind, 9 + kind), 5);
        }
        for (int kind = 0; kind < 4; kind++) {
            CHECK.due("season(" + kind + ", 0)", x.season(kind, 0), 9 + kind);
            CHECK.due("season(" + kind + ", 0) again", x.season(kind, 0), 0);
        }
    }

    private static void seasonOutOfRange() {
        CHECK.sentence("9: IllegalArgumentException if days is out of range");
        for (int days : new int[] {-1, 100, Check.MIN, Check.MAX}) {
            CHECK.refuses("season(3, " + days + ")", Check.ARGUMENT, CompostKeys::new,
                    x -> x.season(3, days));
        }
    }

    private static void passRange() {
        CHECK.sentence("8: days: 1 to 99");
        CompostKeys x = new CompostKeys();
        int day = 0;
        for (int days = 1; days <= 99; days++) {
            CHECK.due("pass(" + days + ")", x.pass(days), 0);
            day += days;
            CHECK.due("the day", x.count(0), day);
        }
    }

    private static void passOutOfRange() {
        CHECK.sentence("8: IllegalArgumentException if days is out of range");
        for (int days : new int[] {0, -1, 100, Check.MIN, Check.MAX}) {
            CHECK.refuses("pass(" + days + ")", Check.ARGUMENT, CompostKeys::new,
                    x -> x.pass(days));
            CHECK.refuses("pass(" + days + ") on the last day", Check.ARGUMENT,
                    () -> Check.onDay(new CompostKeys(), 9999), x -> x.pass(days));
        }
    }

    private static void passAnswersRipeKeysOfAllPiles() {
        CHECK.sentence("8: Returns how many keys of all piles are ripe then");
        CompostKeys x = new CompostKeys();
        for (int kind = 0; kind < 4; kind++) {
            x.season(kind, kind + 1);
            x.ask(kind);
            x.ask(kind);
            Check.deleteAll(x, kind, 0, 1);
        }
        CHECK.due("pass(1)", x.pass(1), 2);
        CHECK.due("pass(1)", x.pass(1), 4);
        CHECK.due("pass(1)", x.pass(1), 6);
        CHECK.due("pass(1)", x.pass(1), 8);
        x.ask(0);
        x.want(3, 1);
        CHECK.due("one given again", x.pass(1), 7);
    }

    private static void upToTheLastDay() {
        CHECK.sentence("8: the day 9999 can be reached");
        for (int days : new int[] {1, 2, 50, 98, 99}) {
            CompostKeys x = Check.onDay(new CompostKeys(), 9999 - days);
            CHECK.due("the day", x.count(0), 9999 - days);
            CHECK.due("pass(" + days + ")", x.pass(days), 0);
            CHECK.due("the last day", x.count(0), 9999);
        }
    }

    private static void noDayAboveTheLast() {
        CHECK.sentence("8: IllegalStateException if the day would be above 9999");
        for (int days : new int[] {1, 2, 50, 98, 99}) {
            CHECK.refuses("pass(" + days + ") to the day 10000", Check.STATE,
                    () -> Check.onDay(new CompostKeys(), 10000 - days), x -> x.pass(days));
        }
        CHECK.refuses("pass(99) on the last day", Check.STATE,
                () -> Check.onDay(new CompostKeys(), 9999), x -> x.pass(99));
    }

    private static void lastDayByUndo() {
        CHECK.sentence("8: on the last day all but pass() goes on");
        CompostKeys x = Check.onDay(new CompostKeys(), 9999);
        CHECK.due("keep(1)", x.keep(1), 9999);
        x.ask(0);
        x.delete(0, 0);
        CHECK.due("brought back on it", x.bringBack(0, 0), 1);
        x.season(0, 0);
        x.delete(0, 0);
        CHECK.due("ripe on it", x.want(0, 0), 2);
        CHECK.due("goBack(1)", x.goBack(1), 9999);
        CHECK.due("pass(1) throws", Check.thrown(() -> x.pass(1)), Check.STATE);
        CHECK.due("keys alive", x.count(1), 0);
    }
}
