import java.util.ArrayDeque;
import java.util.ArrayList;
import java.util.Collections;
import java.util.Deque;
import java.util.List;
import java.util.regex.Matcher;
import java.util.regex.Pattern;

/** The document once more, written apart from the class: lists for piles, a pattern for texts. */
public final class Model {
    private static final Pattern DAYS;

    static {
        String key = "(?:1[0-5]|[0-9])";
        String order = "(?:[ap][0-3]|[db][0-3]\\." + key + "|t[1-9][0-9]?)";
        DAYS = Pattern.compile(order + "(?:;" + order + ")*");
    }

    private static final class Key {
        int status;
        int round;
        int since;
    }

    private static final class Kind {
        int season = 5;
        final List<Key> keys = new ArrayList<>();
        List<Integer> pile = new ArrayList<>();
        int given;
        int deleted;
        int without;
        int tooSoon;
        int back;

        Kind copy() {
            Kind copy = new Kind();
            copy.season = season;
            for (Key key : keys) {
                Key same = new Key();
                same.status = key.status;
                same.round = key.round;
                same.since = key.since;
                copy.keys.add(same);
            }
            copy.pile = new ArrayList<>(pile);
            copy.given = given;
            copy.deleted = deleted;
            copy.without = without;
            copy.tooSoon = tooSoon;
            copy.back = back;
            return copy;
        }
    }

    private static final class State {
        int day;
        int followed;
        int mistakes;
        int dead;
        int[] settings = {0, 4, 3};
        final List<Kind> kinds = new ArrayList<>();

        State copy() {
            State copy = new State();
            copy.day = day;
            copy.followed = followed;
            copy.mistakes = mistakes;
            copy.dead = dead;
            copy.settings = settings.clone();
            for (Kind kind : kinds) {
                copy.kinds.add(kind.copy());
            }
            return copy;
        }
    }

    private State state = new State();
    private final Deque<State> saved = new ArrayDeque<>();
    private final State[] slots = new State[2];
    private String buffer = "";

    public Model() {
        for (int i = 0; i < 4; i++) {
            Kind kind = new Kind();
            for (int j = 0; j < 16; j++) {
                kind.keys.add(new Key());
            }
            state.kinds.add(kind);
        }
    }

    private void save() {
        saved.addLast(state.copy());
        if (saved.size() > 6) {
            saved.removeFirst();
        }
    }

    private static void index(boolean good) {
        if (!good) {
            throw new IndexOutOfBoundsException();
        }
    }

    private static void argument(boolean good) {
        if (!good) {
            throw new IllegalArgumentException();
        }
    }

    private static void state(boolean good) {
        if (!good) {
            throw new IllegalStateException();
        }
    }

    private Kind kind(int kind) {
        index(kind >= 0 && kind <= 3);
        return state.kinds.get(kind);
    }

    private Key key(int kind, int key) {
        Kind row = kind(kind);
        index(key >= 0 && key <= 15);
        return row.keys.get(key);
    }

    private int age(Kind kind, int key) {
        return state.day - kind.keys.get(key).since;
    }

    private List<Integer> fresh(Kind kind) {
        List<Integer> list = new ArrayList<>();
        for (int key = 0; key < 16; key++) {
            if (kind.keys.get(key).status == 0) {
                list.add(key);
            }
        }
        return list;
    }

    private List<Integer> ripe(Kind kind) {
        List<Integer> list = new ArrayList<>();
        for (int key : kind.pile) {
            if (age(kind, key) >= kind.season) {
                list.add(key);
            }
        }
        return list;
    }

    private int drawn(Kind kind) {
        List<Integer> fresh = fresh(kind);
        List<Integer> ripe = ripe(kind);
        List<Integer> row = new ArrayList<>();
        int rule = state.settings[0];
        row.addAll(rule == 1 ? ripe : fresh);
        row.addAll(rule == 1 ? fresh : ripe);
        if (rule >= 2) {
            Collections.sort(row);
        }
        if (rule == 3) {
            row.sort((a, b) -> kind.keys.get(a).round - kind.keys.get(b).round);
        }
        return row.isEmpty() ? kind.pile.isEmpty() ? 101 : 102 : row.get(0);
    }

    private int give(Kind kind, int key) {
        kind.pile.remove((Integer) key);
        kind.keys.get(key).status = 1;
        kind.given++;
        return ++kind.keys.get(key).round;
    }

    private int asked(Kind kind) {
        int key = drawn(kind);
        if (key < 100) {
            give(kind, key);
        } else {
            kind.without++;
            kind.tooSoon += key == 102 ? 1 : 0;
        }
        return key;
    }

    public int ask(int kind) {
        kind(kind);
        save();
        return asked(kind(kind));
    }

    public int want(int kind, int key) {
        Key one = key(kind, key);
        Kind row = kind(kind);
        save();
        if (one.status == 0 || ripe(row).contains(key)) {
            return give(row, key);
        }
        row.without++;
        if (one.status == 1) {
            return 103;
        }
        if (one.status == 3) {
            return 104;
        }
        row.tooSoon++;
        return 105;
    }

    private int deleted(int kind, int key) {
        Key one = key(kind, key);
        state(one.status == 1);
        kind(kind).deleted++;
        if (one.round >= state.settings[1]) {
            one.status = 3;
            return 1;
        }
        one.status = 2;
        one.since = state.day;
        kind(kind).pile.add(0, key);
        return 0;
    }

    public int delete(int kind, int key) {
        state(key(kind, key).status == 1);
        save();
        return deleted(kind, key);
    }

    private int back(int kind, int key) {
        Key one = key(kind, key);
        state(one.status == 2 && state.day - one.since <= state.settings[2]);
        one.status = 1;
        kind(kind).pile.remove((Integer) key);
        kind(kind).back++;
        return one.round;
    }

    public int bringBack(int kind, int key) {
        Key one = key(kind, key);
        state(one.status == 2 && state.day - one.since <= state.settings[2]);
        save();
        return back(kind, key);
    }

    public int turn(int kind) {
        kind(kind);
        save();
        Collections.reverse(kind(kind).pile);
        return pile(kind, 0);
    }

    public int follow(int kind, int key, int round) {
        int answer = ifFollowed(kind, key, round);
        save();
        state.followed++;
        state.mistakes += answer == 2 ? 1 : 0;
        state.dead += answer == 1 ? 1 : 0;
        return answer;
    }

    public int pass(int days) {
        argument(days >= 1 && days <= 99);
        state(state.day + days <= 9999);
        save();
        state.day += days;
        return count(4);
    }

    public int season(int kind, int days) {
        kind(kind);
        argument(days >= 0 && days <= 99);
        save();
        int before = kind(kind).season;
        kind(kind).season = days;
        return before;
    }

    public int set(int setting, int value) {
        int before = setting(setting);
        argument(value >= new int[] {0, 1, 0}[setting] && value <= new int[] {3, 9, 20}[setting]);
        save();
        state.settings[setting] = value;
        return before;
    }

    public int append(int code) {
        argument(code >= 33 && code <= 126);
        state(buffer.length() < 60);
        buffer += (char) code;
        return buffer.length();
    }

    public int clearBuffer() {
        int before = buffer.length();
        buffer = "";
        return before;
    }

    public int firstError() {
        for (int length = 1; length <= buffer.length(); length++) {
            Matcher matcher = DAYS.matcher(buffer.substring(0, length));
            if (!matcher.matches() && !matcher.hitEnd()) {
                return length - 1;
            }
        }
        return buffer.length();
    }

    public int run() {
        argument(DAYS.matcher(buffer).matches());
        save();
        int done = 0;
        try {
            for (String order : buffer.split(";")) {
                String[] parts = order.substring(1).split("\\.");
                if (!done(order.charAt(0), Integer.parseInt(parts[0]), parts)) {
                    break;
                }
                done++;
            }
        } catch (IllegalStateException e) {
            // The order that throws is the first that is not done.
        }
        buffer = "";
        return done;
    }

    private boolean done(char verb, int number, String[] parts) {
        switch (verb) {
            case 'a':
                return asked(kind(number)) < 100;
            case 'p':
                Collections.reverse(kind(number).pile);
                return true;
            case 't':
                state(state.day + number <= 9999);
                state.day += number;
                return true;
            case 'd':
                deleted(number, Integer.parseInt(parts[1]));
                return true;
            default:
                back(number, Integer.parseInt(parts[1]));
                return true;
        }
    }

    public int keep(int slot) {
        argument(slot == 0 || slot == 1);
        slots[slot] = state.copy();
        return state.day;
    }

    public int goBack(int slot) {
        argument(slot == 0 || slot == 1);
        state(slots[slot] != null);
        save();
        state = slots[slot].copy();
        return state.day;
    }

    public int undo() {
        state(!saved.isEmpty());
        state = saved.removeLast();
        return saved.size();
    }

    public int keyOf(int kind, int key, int what) {
        Key one = key(kind, key);
        argument(what >= 0 && what <= 4);
        if (what >= 2 && one.status != 2) {
            return -1;
        }
        int age = state.day - one.since;
        return new int[] {
            one.status, one.round, kind(kind).pile.indexOf(key), age,
            Math.max(0, kind(kind).season - age),
        }[what];
    }

    private static int having(Kind kind, int status) {
        int number = 0;
        for (Key key : kind.keys) {
            number += key.status == status ? 1 : 0;
        }
        return number;
    }

    public int kindOf(int kind, int what) {
        Kind row = kind(kind);
        argument(what >= 0 && what <= 10);
        return new int[] {
            row.season, having(row, 0), having(row, 1), row.pile.size(), ripe(row).size(),
            having(row, 3), row.given, row.deleted, row.without, row.tooSoon, row.back,
        }[what];
    }

    public int pile(int kind, int place) {
        Kind row = kind(kind);
        argument(place >= 0);
        return place < row.pile.size() ? row.pile.get(place) : -1;
    }

    private int sum(int what) {
        int sum = 0;
        for (int kind = 0; kind < 4; kind++) {
            sum += kindOf(kind, what);
        }
        return sum;
    }

    public int count(int what) {
        argument(what >= 0 && what <= 9);
        int round = 0;
        for (Kind kind : state.kinds) {
            for (Key key : kind.keys) {
                round = Math.max(round, key.round);
            }
        }
        return new int[] {
            state.day, sum(2), sum(6) + sum(10) - sum(7), sum(3), sum(4), state.followed,
            state.mistakes, state.dead, round, saved.size(),
        }[what];
    }

    public int setting(int setting) {
        index(setting >= 0 && setting <= 2);
        return state.settings[setting];
    }

    public int ifAsked(int kind) {
        return drawn(kind(kind));
    }

    public int keyIn(int kind) {
        Kind row = kind(kind);
        State before = state;
        try {
            for (int days = 0; days <= 99; days++) {
                state = before.copy();
                state.day += days;
                if (drawn(state.kinds.get(kind)) < 100) {
                    return days;
                }
            }
        } finally {
            state = before;
        }
        return row.pile.isEmpty() ? -1 : 1000;
    }

    public int coming(int kind, int rank) {
        kind(kind);
        argument(rank >= 1 && rank <= 16);
        State before = state;
        state = before.copy();
        int key = -1;
        for (int row = 0; row < rank; row++) {
            key = asked(kind(kind));
        }
        state = before;
        return key < 100 ? key : -1;
    }

    public int longest(int kind) {
        Kind row = kind(kind);
        int before = row.season;
        int longest = -1;
        for (int season = 0; season <= 99; season++) {
            row.season = season;
            longest = drawn(row) < 100 ? season : longest;
        }
        row.season = before;
        return longest;
    }

    public int ifFollowed(int kind, int key, int round) {
        Key one = key(kind, key);
        argument(round >= 1);
        return one.status != 1 || one.round < round ? 1 : one.round == round ? 0 : 2;
    }

    public int scarcest() {
        int best = 0;
        for (int kind = 1; kind < 4; kind++) {
            if (kindOf(kind, 1) + kindOf(kind, 4) < kindOf(best, 1) + kindOf(best, 4)) {
                best = kind;
            }
        }
        return best;
    }

    public double ripeShare() {
        return sum(3) == 0 ? 1.0 : (double) sum(4) / sum(3);
    }

    public float meanAge(int kind) {
        Kind row = kind(kind);
        int days = 0;
        for (int key : row.pile) {
            days += age(row, key);
        }
        return row.pile.isEmpty() ? 0.0f : (float) days / row.pile.size();
    }

    public long digest() {
        List<Long> row = new ArrayList<>();
        for (int what = 0; what <= 9; what++) {
            row.add((long) count(what));
        }
        for (int setting : state.settings) {
            row.add((long) setting);
        }
        for (int kind = 0; kind < 4; kind++) {
            addKind(row, kind);
        }
        row.add((long) scarcest());
        row.add(Double.doubleToLongBits(ripeShare()));
        row.add(slots[0] == null ? 0L : 1L);
        row.add(slots[1] == null ? 0L : 1L);
        row.add((long) buffer.length());
        for (char code : buffer.toCharArray()) {
            row.add((long) code);
        }
        long hash = 3361;
        for (long value : row) {
            hash = 31 * hash + value;
        }
        return hash;
    }

    private void addKind(List<Long> row, int kind) {
        for (int what = 0; what <= 10; what++) {
            row.add((long) kindOf(kind, what));
        }
        for (int key = 0; key < 16; key++) {
            for (int what = 0; what <= 4; what++) {
                row.add((long) keyOf(kind, key, what));
            }
        }
        for (int place = 0; place <= 3; place++) {
            row.add((long) pile(kind, place));
        }
        row.add((long) ifAsked(kind));
        row.add((long) keyIn(kind));
        for (int rank = 1; rank <= 3; rank++) {
            row.add((long) coming(kind, rank));
        }
        row.add((long) longest(kind));
        row.add((long) Float.floatToIntBits(meanAge(kind)));
    }
}
