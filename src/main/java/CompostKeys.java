/** Compost of deleted rows from which new keys are drawn. Promises by number: ../shared/DOC.md. */
public final class CompostKeys {
    public static final int NONE = -1;

    private static final int KINDS = 4;
    private static final int KEYS = 16;
    private static final int FIRST_SEASON = 5;
    private static final int MOST_SEASON = 99;
    private static final int MOST_PASSING = 99;
    private static final int LAST_DAY = 9999;

    private static final int FRESH = 0;
    private static final int ALIVE = 1;
    private static final int IN_PILE = 2;
    private static final int WORN_OUT = 3;

    private static final int DRAWING = 0;
    private static final int MOST_ROUNDS = 1;
    private static final int DAYS_TO_BRING_BACK = 2;
    private static final int[] SETTING_AT_FIRST = {0, 4, 3};
    private static final int[] SETTING_LEAST = {0, 1, 0};
    private static final int[] SETTING_MOST = {3, 9, 20};
    private static final int SETTINGS = 3;

    private static final int WITHOUT = 100;
    private static final int NO_REASON = 0;
    private static final int NO_KEY_LEFT = 1;
    private static final int ASKED_TOO_SOON = 2;
    private static final int IS_ALIVE = 3;
    private static final int IS_WORN_OUT = 4;
    private static final int IS_NOT_RIPE = 5;

    private static final int RIGHT = 0;
    private static final int DEAD = 1;
    private static final int MISTAKE = 2;

    private static final int SLOTS = 2;
    private static final int MOST_SAVED = 6;
    private static final int MOST_CODES = 60;

    private final Compost now;
    private final SavedStates saved;
    private final Compost[] slots;
    private final boolean[] kept;
    private final DaysText text;

    public CompostKeys() {
        now = new Compost();
        saved = new SavedStates();
        slots = new Compost[SLOTS];
        for (int slot = 0; slot < SLOTS; slot++) {
            slots[slot] = new Compost();
        }
        kept = new boolean[SLOTS];
        text = new DaysText();
    }

    // ---- rows, keys

    public int ask(int kind) throws IndexOutOfBoundsException {
        needKind(kind);
        saved.push(now);
        return now.serveRow(kind);
    }

    public int want(int kind, int key) throws IndexOutOfBoundsException {
        needKey(kind, key);
        saved.push(now);
        return now.serveWish(kind, key);
    }

    public int delete(int kind, int key) throws IndexOutOfBoundsException, IllegalStateException {
        needKey(kind, key);
        if (!now.canDelete(kind, key)) {
            throw new IllegalStateException("the key is not alive");
        }
        saved.push(now);
        return now.deleteRow(kind, key);
    }

    public int bringBack(int kind, int key)
            throws IndexOutOfBoundsException, IllegalStateException {
        needKey(kind, key);
        if (!now.canBringBack(kind, key)) {
            throw new IllegalStateException("not in the pile, or deleted too long ago");
        }
        saved.push(now);
        return now.bringRowBack(kind, key);
    }

    public int turn(int kind) throws IndexOutOfBoundsException {
        needKind(kind);
        saved.push(now);
        now.keys.turnPile(kind);
        return now.keys.keyAt(kind, 0);
    }

    public int follow(int kind, int key, int round)
            throws IndexOutOfBoundsException, IllegalArgumentException {
        needKey(kind, key);
        needAtLeast(round, 1);
        saved.push(now);
        return now.followReference(kind, key, round);
    }

    // ---- days, settings

    public int pass(int days) throws IllegalArgumentException, IllegalStateException {
        needRange(days, 1, MOST_PASSING);
        if (!now.keys.canPass(days)) {
            throw new IllegalStateException("the last day is 9999");
        }
        saved.push(now);
        now.keys.letPass(days);
        return now.keys.howManyRipeOfAll();
    }

    public int season(int kind, int days)
            throws IndexOutOfBoundsException, IllegalArgumentException {
        needKind(kind);
        needRange(days, 0, MOST_SEASON);
        saved.push(now);
        int before = now.keys.seasons[kind];
        now.keys.seasons[kind] = days;
        return before;
    }

    public int set(int setting, int value)
            throws IndexOutOfBoundsException, IllegalArgumentException {
        needSetting(setting);
        needRange(value, SETTING_LEAST[setting], SETTING_MOST[setting]);
        saved.push(now);
        int before = now.settings[setting];
        now.settings[setting] = value;
        return before;
    }

    // ---- texts, snapshots

    public int append(int code) throws IllegalArgumentException, IllegalStateException {
        needRange(code, 33, 126);
        if (text.isFull()) {
            throw new IllegalStateException("the buffer is full");
        }
        text.add(code);
        return text.length;
    }

    public int clearBuffer() {
        int before = text.length;
        text.length = 0;
        return before;
    }

    public int firstError() {
        return text.errorAt();
    }

    public int run() throws IllegalArgumentException {
        if (!text.tellsDays()) {
            throw new IllegalArgumentException("the buffer does not tell days as a text");
        }
        saved.push(now);
        int done = 0;
        for (int place = 0; place < text.length; place++) {
            if (!text.beginsOrder(place)) {
                continue;
            }
            if (!doOrder(place)) {
                break;
            }
            done++;
        }
        text.length = 0;
        return done;
    }

    public int keep(int slot) throws IllegalArgumentException {
        needRange(slot, 0, SLOTS - 1);
        Compost.copyState(now, slots[slot]);
        kept[slot] = true;
        return now.keys.day;
    }

    public int goBack(int slot) throws IllegalArgumentException, IllegalStateException {
        needRange(slot, 0, SLOTS - 1);
        if (!kept[slot]) {
            throw new IllegalStateException("there is no snapshot in the slot");
        }
        saved.push(now);
        Compost.copyState(slots[slot], now);
        return now.keys.day;
    }

    public int undo() throws IllegalStateException {
        if (saved.size == 0) {
            throw new IllegalStateException("there is no saved state");
        }
        saved.popInto(now);
        return saved.size;
    }

    // ---- looks; nothing is changed

    public int keyOf(int kind, int key, int what)
            throws IndexOutOfBoundsException, IllegalArgumentException {
        needKey(kind, key);
        needRange(what, 0, 4);
        return now.keys.propertyOfKey(kind, key, what);
    }

    public int kindOf(int kind, int what)
            throws IndexOutOfBoundsException, IllegalArgumentException {
        needKind(kind);
        needRange(what, 0, 10);
        return now.propertyOfKind(kind, what);
    }

    public int pile(int kind, int place)
            throws IndexOutOfBoundsException, IllegalArgumentException {
        needKind(kind);
        needAtLeast(place, 0);
        return now.keys.keyAt(kind, place);
    }

    public int count(int what) throws IllegalArgumentException {
        needRange(what, 0, 9);
        return numberOf(what);
    }

    public int setting(int setting) throws IndexOutOfBoundsException {
        needSetting(setting);
        return now.settings[setting];
    }

    // ---- what would be; nothing is changed

    public int ifAsked(int kind) throws IndexOutOfBoundsException {
        needKind(kind);
        return now.answerToRow(kind);
    }

    public int keyIn(int kind) throws IndexOutOfBoundsException {
        needKind(kind);
        return now.keys.daysToKey(kind);
    }

    public int coming(int kind, int rank)
            throws IndexOutOfBoundsException, IllegalArgumentException {
        needKind(kind);
        needRange(rank, 1, KEYS);
        return now.keyOfRow(kind, rank);
    }

    public int longest(int kind) throws IndexOutOfBoundsException {
        needKind(kind);
        return now.keys.longestSeason(kind);
    }

    public int ifFollowed(int kind, int key, int round)
            throws IndexOutOfBoundsException, IllegalArgumentException {
        needKey(kind, key);
        needAtLeast(round, 1);
        return now.keys.judge(kind, key, round);
    }

    public int scarcest() {
        return now.keys.scarcestKind();
    }

    public double ripeShare() {
        return now.keys.shareOfRipe();
    }

    public float meanAge(int kind) throws IndexOutOfBoundsException {
        needKind(kind);
        return now.keys.meanDays(kind);
    }

    public long digest() {
        long hash = 3361L;
        for (int what = 0; what <= 9; what++) {
            hash = mix(hash, numberOf(what));
        }
        for (int setting = 0; setting < SETTINGS; setting++) {
            hash = mix(hash, now.settings[setting]);
        }
        for (int kind = 0; kind < KINDS; kind++) {
            hash = mixKind(hash, kind);
        }
        hash = mix(hash, now.keys.scarcestKind());
        hash = mix(hash, bitsOf(now.keys.shareOfRipe(), 52, 1023));
        for (int slot = 0; slot < SLOTS; slot++) {
            hash = mix(hash, kept[slot] ? 1 : 0);
        }
        hash = mix(hash, text.length);
        for (int place = 0; place < text.length; place++) {
            hash = mix(hash, text.codeAt(place));
        }
        return hash;
    }

    // ---- behind the face

    private static boolean isKind(int kind) {
        return kind >= 0 && kind < KINDS;
    }

    private static boolean isKey(int key) {
        return key >= 0 && key < KEYS;
    }

    private static void needKind(int kind) {
        if (!isKind(kind)) {
            throw new IndexOutOfBoundsException("there is no such kind");
        }
    }

    private static void needKey(int kind, int key) {
        if (!isKind(kind) || !isKey(key)) {
            throw new IndexOutOfBoundsException("there is no such kind or key");
        }
    }

    private static void needSetting(int setting) {
        if (setting < 0 || setting >= SETTINGS) {
            throw new IndexOutOfBoundsException("there is no such setting");
        }
    }

    private static void needAtLeast(int value, int least) {
        if (value < least) {
            throw new IllegalArgumentException("too small");
        }
    }

    private static void needRange(int value, int least, int most) {
        if (value < least || value > most) {
            throw new IllegalArgumentException("out of range");
        }
    }

    /** Does the order that begins there; false if its method would throw or its row goes without. */
    private boolean doOrder(int from) {
        int verb = text.codeAt(from);
        int first = text.numberAt(from + 1);
        switch (verb) {
            case 'a':
                return isKind(first) && now.serveRow(first) < WITHOUT;
            case 'p':
                return turnIfKind(first);
            case 't':
                return passIfCan(first);
            default:
                return doRowOrder(verb, first, text.numberAt(from + 3));
        }
    }

    private boolean turnIfKind(int kind) {
        if (!isKind(kind)) {
            return false;
        }
        now.keys.turnPile(kind);
        return true;
    }

    private boolean passIfCan(int days) {
        if (!now.keys.canPass(days)) {
            return false;
        }
        now.keys.letPass(days);
        return true;
    }

    private boolean doRowOrder(int verb, int kind, int key) {
        if (!isKind(kind) || !isKey(key)) {
            return false;
        }
        if (verb == 'd' && now.canDelete(kind, key)) {
            now.deleteRow(kind, key);
            return true;
        }
        if (verb == 'b' && now.canBringBack(kind, key)) {
            now.bringRowBack(kind, key);
            return true;
        }
        return false;
    }

    private int numberOf(int what) {
        switch (what) {
            case 0:
                return now.keys.day;
            case 1:
                return now.keys.howManyOfAll(ALIVE);
            case 2:
                return now.accounts.aliveByAccount();
            case 3:
                return now.keys.howManyOfAll(IN_PILE);
            case 4:
                return now.keys.howManyRipeOfAll();
            case 5:
                return now.accounts.followed;
            case 6:
                return now.accounts.mistakes;
            case 7:
                return now.accounts.dead;
            case 8:
                return now.keys.greatestRound();
            default:
                return saved.size;
        }
    }

    private static long mix(long hash, long value) {
        return 31L * hash + value;
    }

    private long mixKind(long start, int kind) {
        long hash = start;
        for (int what = 0; what <= 10; what++) {
            hash = mix(hash, now.propertyOfKind(kind, what));
        }
        for (int key = 0; key < KEYS; key++) {
            for (int what = 0; what <= 4; what++) {
                hash = mix(hash, now.keys.propertyOfKey(kind, key, what));
            }
        }
        for (int place = 0; place <= 3; place++) {
            hash = mix(hash, now.keys.keyAt(kind, place));
        }
        hash = mix(hash, now.answerToRow(kind));
        hash = mix(hash, now.keys.daysToKey(kind));
        for (int rank = 1; rank <= 3; rank++) {
            hash = mix(hash, now.keyOfRow(kind, rank));
        }
        hash = mix(hash, now.keys.longestSeason(kind));
        return mix(hash, bitsOf(now.keys.meanDays(kind), 23, 127));
    }

    /**
     * The bits of a number that is 0 or at least 2 to the power of 1 - bias. LANGUAGE.md leaves no
     * library call for them; halving and doubling lose nothing here.
     */
    private static long bitsOf(double number, int fractionBits, int bias) {
        if (number <= 0.0) {
            return 0L;
        }
        double head = number;
        long exponent = bias;
        while (head >= 2.0 && exponent < 2L * bias) {
            head = head / 2.0;
            exponent++;
        }
        while (head < 1.0 && exponent > 1L) {
            head = head * 2.0;
            exponent--;
        }
        long fraction = (long) ((head - 1.0) * (double) (1L << fractionBits));
        return (exponent << fractionBits) + fraction;
    }

    /** The keys of all kinds, their piles and seasons, and the day. */
    private static final class Keys {
        int day;
        final int[] seasons;
        // One element for each key of each kind, those of kind 0 first.
        private final int[] status;
        private final int[] rounds;
        // Places count from the top of the pile; only those of keys in a pile mean something.
        private final int[] places;
        private final int[] since;

        Keys() {
            seasons = new int[KINDS];
            for (int kind = 0; kind < KINDS; kind++) {
                seasons[kind] = FIRST_SEASON;
            }
            status = new int[KINDS * KEYS];
            rounds = new int[KINDS * KEYS];
            places = new int[KINDS * KEYS];
            since = new int[KINDS * KEYS];
        }

        void copyFrom(Keys other) {
            day = other.day;
            System.arraycopy(other.seasons, 0, seasons, 0, KINDS);
            System.arraycopy(other.status, 0, status, 0, KINDS * KEYS);
            System.arraycopy(other.rounds, 0, rounds, 0, KINDS * KEYS);
            System.arraycopy(other.places, 0, places, 0, KINDS * KEYS);
            System.arraycopy(other.since, 0, since, 0, KINDS * KEYS);
        }

        int statusOf(int kind, int key) {
            return status[kind * KEYS + key];
        }

        int roundOf(int kind, int key) {
            return rounds[kind * KEYS + key];
        }

        int daysLain(int kind, int key) {
            return day - since[kind * KEYS + key];
        }

        int daysToRipe(int kind, int key) {
            return Math.max(0, seasons[kind] - daysLain(kind, key));
        }

        boolean isRipe(int kind, int key) {
            int at = kind * KEYS + key;
            return status[at] == IN_PILE && day - since[at] >= seasons[kind];
        }

        boolean canBeGiven(int kind, int key) {
            return statusOf(kind, key) == FRESH || isRipe(kind, key);
        }

        void give(int kind, int key) {
            takeOut(kind, key);
            rounds[kind * KEYS + key]++;
            status[kind * KEYS + key] = ALIVE;
        }

        void revive(int kind, int key) {
            takeOut(kind, key);
            status[kind * KEYS + key] = ALIVE;
        }

        void wearOut(int kind, int key) {
            status[kind * KEYS + key] = WORN_OUT;
        }

        void layOnTop(int kind, int key) {
            for (int other = kind * KEYS; other < (kind + 1) * KEYS; other++) {
                places[other]++;
            }
            int at = kind * KEYS + key;
            status[at] = IN_PILE;
            places[at] = 0;
            since[at] = day;
        }

        /** Closes the gap that a key leaves in the pile; without effect if it is not in it. */
        private void takeOut(int kind, int key) {
            int at = kind * KEYS + key;
            if (status[at] != IN_PILE) {
                return;
            }
            for (int other = kind * KEYS; other < (kind + 1) * KEYS; other++) {
                if (places[other] > places[at]) {
                    places[other]--;
                }
            }
        }

        void turnPile(int kind) {
            int bottom = howMany(kind, IN_PILE) - 1;
            for (int at = kind * KEYS; at < (kind + 1) * KEYS; at++) {
                places[at] = bottom - places[at];
            }
        }

        int keyAt(int kind, int place) {
            for (int key = 0; key < KEYS; key++) {
                if (statusOf(kind, key) == IN_PILE && places[kind * KEYS + key] == place) {
                    return key;
                }
            }
            return NONE;
        }

        /** Draws a key by the rule, but none of those whose bits are set in taken. */
        int draw(int kind, int rule, int taken) {
            int drawn = NONE;
            int least = 0;
            for (int key = 0; key < KEYS; key++) {
                if ((taken & (1 << key)) != 0 || !canBeGiven(kind, key)) {
                    continue;
                }
                int rank = rankByRule(kind, key, rule);
                if (drawn == NONE || rank < least) {
                    drawn = key;
                    least = rank;
                }
            }
            return drawn;
        }

        private int rankByRule(int kind, int key, int rule) {
            int at = kind * KEYS + key;
            boolean fresh = status[at] == FRESH;
            switch (rule) {
                case 0:
                    return fresh ? key : KEYS + places[at];
                case 1:
                    return fresh ? KEYS + key : places[at];
                case 2:
                    return key;
                default:
                    return rounds[at] * KEYS + key;
            }
        }

        int judge(int kind, int key, int round) {
            if (statusOf(kind, key) != ALIVE || round > roundOf(kind, key)) {
                return DEAD;
            }
            return round < roundOf(kind, key) ? MISTAKE : RIGHT;
        }

        boolean canPass(int days) {
            return days <= LAST_DAY - day;
        }

        void letPass(int days) {
            day += days;
        }

        int howMany(int kind, int wanted) {
            int number = 0;
            for (int key = 0; key < KEYS; key++) {
                if (statusOf(kind, key) == wanted) {
                    number++;
                }
            }
            return number;
        }

        int howManyOfAll(int wanted) {
            int number = 0;
            for (int kind = 0; kind < KINDS; kind++) {
                number += howMany(kind, wanted);
            }
            return number;
        }

        int howManyRipe(int kind) {
            int number = 0;
            for (int key = 0; key < KEYS; key++) {
                if (isRipe(kind, key)) {
                    number++;
                }
            }
            return number;
        }

        int howManyRipeOfAll() {
            int number = 0;
            for (int kind = 0; kind < KINDS; kind++) {
                number += howManyRipe(kind);
            }
            return number;
        }

        int greatestRound() {
            int greatest = 0;
            for (int at = 0; at < KINDS * KEYS; at++) {
                greatest = Math.max(greatest, rounds[at]);
            }
            return greatest;
        }

        int propertyOfKey(int kind, int key, int what) {
            if (what == 0) {
                return statusOf(kind, key);
            }
            if (what == 1) {
                return roundOf(kind, key);
            }
            if (statusOf(kind, key) != IN_PILE) {
                return NONE;
            }
            if (what == 2) {
                return places[kind * KEYS + key];
            }
            return what == 3 ? daysLain(kind, key) : daysToRipe(kind, key);
        }

        int daysToKey(int kind) {
            if (howMany(kind, FRESH) > 0) {
                return 0;
            }
            int least = NONE;
            for (int key = 0; key < KEYS; key++) {
                if (statusOf(kind, key) != IN_PILE) {
                    continue;
                }
                int days = daysToRipe(kind, key);
                if (least == NONE || days < least) {
                    least = days;
                }
            }
            return least;
        }

        int longestSeason(int kind) {
            if (howMany(kind, FRESH) > 0) {
                return MOST_SEASON;
            }
            int longest = NONE;
            for (int key = 0; key < KEYS; key++) {
                if (statusOf(kind, key) == IN_PILE) {
                    longest = Math.max(longest, daysLain(kind, key));
                }
            }
            return Math.min(longest, MOST_SEASON);
        }

        int scarcestKind() {
            int scarcest = 0;
            int fewest = KEYS + 1;
            for (int kind = 0; kind < KINDS; kind++) {
                int number = howMany(kind, FRESH) + howManyRipe(kind);
                if (number < fewest) {
                    scarcest = kind;
                    fewest = number;
                }
            }
            return scarcest;
        }

        double shareOfRipe() {
            int lying = howManyOfAll(IN_PILE);
            return lying == 0 ? 1.0 : (double) howManyRipeOfAll() / (double) lying;
        }

        float meanDays(int kind) {
            int lying = 0;
            int days = 0;
            for (int key = 0; key < KEYS; key++) {
                if (statusOf(kind, key) == IN_PILE) {
                    lying++;
                    days += daysLain(kind, key);
                }
            }
            return lying == 0 ? 0.0f : (float) days / (float) lying;
        }
    }

    /** What was done so far, for each kind and in all. */
    private static final class Accounts {
        final int[] given;
        final int[] deleted;
        final int[] broughtBack;
        final int[] without;
        final int[] tooSoon;
        int followed;
        int mistakes;
        int dead;

        Accounts() {
            given = new int[KINDS];
            deleted = new int[KINDS];
            broughtBack = new int[KINDS];
            without = new int[KINDS];
            tooSoon = new int[KINDS];
        }

        void copyFrom(Accounts other) {
            System.arraycopy(other.given, 0, given, 0, KINDS);
            System.arraycopy(other.deleted, 0, deleted, 0, KINDS);
            System.arraycopy(other.broughtBack, 0, broughtBack, 0, KINDS);
            System.arraycopy(other.without, 0, without, 0, KINDS);
            System.arraycopy(other.tooSoon, 0, tooSoon, 0, KINDS);
            followed = other.followed;
            mistakes = other.mistakes;
            dead = other.dead;
        }

        void noteWithout(int kind, int reason) {
            without[kind]++;
            if (reason == ASKED_TOO_SOON || reason == IS_NOT_RIPE) {
                tooSoon[kind]++;
            }
        }

        void noteFollowed(int judgement) {
            followed++;
            if (judgement == MISTAKE) {
                mistakes++;
            }
            if (judgement == DEAD) {
                dead++;
            }
        }

        int aliveByAccount() {
            int alive = 0;
            for (int kind = 0; kind < KINDS; kind++) {
                alive += given[kind] + broughtBack[kind] - deleted[kind];
            }
            return alive;
        }
    }

    /** The whole state that snapshots and undo bring back. */
    private static final class Compost {
        final Keys keys;
        final Accounts accounts;
        final int[] settings;

        Compost() {
            keys = new Keys();
            accounts = new Accounts();
            settings = new int[SETTINGS];
            System.arraycopy(SETTING_AT_FIRST, 0, settings, 0, SETTINGS);
        }

        static void copyState(Compost from, Compost to) {
            if (from == null || to == null) {
                return;
            }
            to.keys.copyFrom(from.keys);
            to.accounts.copyFrom(from.accounts);
            System.arraycopy(from.settings, 0, to.settings, 0, SETTINGS);
        }

        /** The key that a row which asks would get, or 100 and the reason why it gets none. */
        int answerToRow(int kind) {
            int key = keys.draw(kind, settings[DRAWING], 0);
            if (key != NONE) {
                return key;
            }
            return WITHOUT + (keys.howMany(kind, IN_PILE) == 0 ? NO_KEY_LEFT : ASKED_TOO_SOON);
        }

        int serveRow(int kind) {
            int answer = answerToRow(kind);
            if (answer >= WITHOUT) {
                accounts.noteWithout(kind, answer - WITHOUT);
            } else {
                giveKey(kind, answer);
            }
            return answer;
        }

        int serveWish(int kind, int key) {
            int reason = reasonAgainst(kind, key);
            if (reason != NO_REASON) {
                accounts.noteWithout(kind, reason);
                return WITHOUT + reason;
            }
            giveKey(kind, key);
            return keys.roundOf(kind, key);
        }

        private int reasonAgainst(int kind, int key) {
            switch (keys.statusOf(kind, key)) {
                case ALIVE:
                    return IS_ALIVE;
                case WORN_OUT:
                    return IS_WORN_OUT;
                default:
                    return keys.canBeGiven(kind, key) ? NO_REASON : IS_NOT_RIPE;
            }
        }

        private void giveKey(int kind, int key) {
            keys.give(kind, key);
            accounts.given[kind]++;
        }

        boolean canDelete(int kind, int key) {
            return keys.statusOf(kind, key) == ALIVE;
        }

        int deleteRow(int kind, int key) {
            accounts.deleted[kind]++;
            // A setting made smaller since leaves rounds above it; these wear out here, too.
            if (keys.roundOf(kind, key) >= settings[MOST_ROUNDS]) {
                keys.wearOut(kind, key);
                return 1;
            }
            keys.layOnTop(kind, key);
            return 0;
        }

        boolean canBringBack(int kind, int key) {
            return keys.statusOf(kind, key) == IN_PILE
                    && keys.daysLain(kind, key) <= settings[DAYS_TO_BRING_BACK];
        }

        int bringRowBack(int kind, int key) {
            keys.revive(kind, key);
            accounts.broughtBack[kind]++;
            return keys.roundOf(kind, key);
        }

        int followReference(int kind, int key, int round) {
            int judgement = keys.judge(kind, key, round);
            accounts.noteFollowed(judgement);
            return judgement;
        }

        /** The key of the rank-th of the rows that ask on this day, one after the other. */
        int keyOfRow(int kind, int rank) {
            int taken = 0;
            int key = NONE;
            for (int row = 1; row <= rank; row++) {
                key = keys.draw(kind, settings[DRAWING], taken);
                if (key == NONE) {
                    return NONE;
                }
                taken |= 1 << key;
            }
            return key;
        }

        int propertyOfKind(int kind, int what) {
            switch (what) {
                case 0:
                    return keys.seasons[kind];
                case 1:
                    return keys.howMany(kind, FRESH);
                case 2:
                    return keys.howMany(kind, ALIVE);
                case 3:
                    return keys.howMany(kind, IN_PILE);
                case 4:
                    return keys.howManyRipe(kind);
                case 5:
                    return keys.howMany(kind, WORN_OUT);
                case 6:
                    return accounts.given[kind];
                case 7:
                    return accounts.deleted[kind];
                case 8:
                    return accounts.without[kind];
                case 9:
                    return accounts.tooSoon[kind];
                default:
                    return accounts.broughtBack[kind];
            }
        }
    }

    /** The states that undo restores, the oldest first. */
    private static final class SavedStates {
        private final Compost[] states;
        int size;

        SavedStates() {
            states = new Compost[MOST_SAVED];
            for (int place = 0; place < MOST_SAVED; place++) {
                states[place] = new Compost();
            }
        }

        void push(Compost state) {
            if (size >= MOST_SAVED) {
                dropOldest();
            }
            Compost.copyState(state, states[size]);
            size++;
        }

        /** The object of the dropped state goes to the end, to be used again. */
        private void dropOldest() {
            Compost oldest = states[0];
            for (int place = 1; place < MOST_SAVED; place++) {
                states[place - 1] = states[place];
            }
            states[MOST_SAVED - 1] = oldest;
            size = MOST_SAVED - 1;
        }

        void popInto(Compost state) {
            if (size <= 0) {
                return;
            }
            size--;
            Compost.copyState(states[size], state);
        }
    }

    /** The buffer, and what it says as days. */
    private static final class DaysText {
        private static final int BEFORE_ORDER = 0;
        private static final int BEFORE_ONLY_KIND = 1;
        private static final int BEFORE_KIND = 2;
        private static final int BEFORE_DOT = 3;
        private static final int BEFORE_KEY = 4;
        private static final int BEHIND_KEY_ONE = 5;
        private static final int BEFORE_DAYS = 6;
        private static final int BEHIND_DAYS_DIGIT = 7;
        private static final int BEHIND_ORDER = 8;
        private static final int ERROR = 9;

        private final int[] codes;
        int length;

        DaysText() {
            codes = new int[MOST_CODES];
        }

        boolean isFull() {
            return length >= MOST_CODES;
        }

        void add(int code) {
            if (!isFull()) {
                codes[length] = code;
                length++;
            }
        }

        int codeAt(int place) {
            return place >= 0 && place < length ? codes[place] : NONE;
        }

        int errorAt() {
            int state = BEFORE_ORDER;
            for (int place = 0; place < length; place++) {
                state = stateBehind(state, codeAt(place));
                if (state == ERROR) {
                    return place;
                }
            }
            return length;
        }

        boolean tellsDays() {
            int state = BEFORE_ORDER;
            for (int place = 0; place < length; place++) {
                state = stateBehind(state, codeAt(place));
            }
            return mayEnd(state);
        }

        private static boolean mayEnd(int state) {
            return state == BEHIND_ORDER || state == BEHIND_KEY_ONE || state == BEHIND_DAYS_DIGIT;
        }

        private static int stateBehind(int state, int code) {
            if (code == ';' && mayEnd(state)) {
                return BEFORE_ORDER;
            }
            switch (state) {
                case BEFORE_ORDER:
                    return stateBehindVerb(code);
                case BEFORE_ONLY_KIND:
                    return code >= '0' && code <= '3' ? BEHIND_ORDER : ERROR;
                case BEFORE_KIND:
                    return code >= '0' && code <= '3' ? BEFORE_DOT : ERROR;
                case BEFORE_DOT:
                    return code == '.' ? BEFORE_KEY : ERROR;
                case BEFORE_KEY:
                    if (code == '1') {
                        return BEHIND_KEY_ONE;
                    }
                    return isDigit(code) ? BEHIND_ORDER : ERROR;
                case BEHIND_KEY_ONE:
                    return code >= '0' && code <= '5' ? BEHIND_ORDER : ERROR;
                case BEFORE_DAYS:
                    return isDigit(code) && code != '0' ? BEHIND_DAYS_DIGIT : ERROR;
                case BEHIND_DAYS_DIGIT:
                    return isDigit(code) ? BEHIND_ORDER : ERROR;
                default:
                    return ERROR;
            }
        }

        private static int stateBehindVerb(int code) {
            switch (code) {
                case 'a':
                case 'p':
                    return BEFORE_ONLY_KIND;
                case 'd':
                case 'b':
                    return BEFORE_KIND;
                case 't':
                    return BEFORE_DAYS;
                default:
                    return ERROR;
            }
        }

        private static boolean isDigit(int code) {
            return code >= '0' && code <= '9';
        }

        boolean beginsOrder(int place) {
            return place == 0 || codeAt(place - 1) == ';';
        }

        /** The number whose digits begin there. */
        int numberAt(int from) {
            int number = 0;
            for (int place = from; place < length && isDigit(codeAt(place)); place++) {
                number = number * 10 + codeAt(place) - '0';
            }
            return number;
        }
    }
}
