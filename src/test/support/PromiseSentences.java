import java.util.ArrayList;
import java.util.Arrays;
import java.util.List;
import java.util.function.IntPredicate;
import java.util.function.ToIntBiFunction;
import java.util.stream.IntStream;

/** The tests of the document's sentences under 'Promise 1' to 'Promise 12', in their order. */
final class PromiseSentences extends Looks {
    private static final int[] NOT_PLACES = {MIN, -25, -2, -1, WRAPS_TO_A_PLACE, MAX};
    /** The log of the objects that withSevenEntries makes: sort, key and fields of each entry. */
    private static final int[][] SEVEN_ENTRIES = {
        {2, 0, 1, -9, -9, -9, 1, -9},
        {2, 7, 1, 20, 20, 20, 1, 20},
        {1, 7, 1, 20, 20, 20, 1, 20}, {2, 7, 2, 30, 10, 20, 2, 10},
        {1, 0, 1, -9, -9, -9, 1, -9}, {2, 0, 2, -18, -9, -9, 1, -9},
        {1, 7, 2, 30, 10, 20, 2, 10}
    };

    private interface RowCall {
        int make(GroupChangelog x, int key, int value);
    }

    private interface RowTest {
        boolean holds(GroupChangelog x, int key, int value);
    }

    // Promise 1

    static void newObject() {
        withFullTable();
        GroupChangelog x = new GroupChangelog();
        due("rows", States.rows(x), 0);
        due("entries", x.pending(), 0);
        dueNoEntry("no entry", x, 0);
        for (int key = 0; key < 8; key++) {
            dueNoGroup("no group", x, key);
            due("removeGroup", x.removeGroup(key), 0);
        }
        due("take", x.take(24), 0);
        due("the first row", x.insert(3, 3), 1);
    }

    // Promise 2

    /** What is due after a row has come (1) or gone (-1), with what an equal object without the call answers. */
    private static void dueOneRow(String what, GroupChangelog x, GroupChangelog without, int key, int value, int more) {
        for (int k = 0; k < 8; k++) {
            int change = k == key ? more : 0;
            due(what + ", rows of key " + k, x.now(k, 0), without.now(k, 0) + change);
            due(what + ", sum of key " + k, x.now(k, 1), without.now(k, 1) + change * value);
        }
        List<Integer> want = new ArrayList<>();
        for (int k = 0; k < 8; k++) {
            for (int v : VALUES) {
                want.add(without.below(k, v) + (k == key && value < v ? more : 0));
            }
        }
        dueSame(what + ", rows below", rowsBelow(x), want);
    }

    /** In every state: a call that is not refused adds (1) or removes (-1) just the row. */
    private static void dueOneRowInAnyState(String name, RowCall call, int more) {
        for (States.State state : States.all()) {
            for (int key = 0; key < 8; key++) {
                for (int value : VALUES) {
                    GroupChangelog x = state.make();
                    if (call.make(x, key, value) != -1) {
                        String what = state.name() + ", " + name + "(" + key + ", " + value + ")";
                        dueOneRow(what, x, state.make(), key, value, more);
                    }
                }
            }
        }
    }

    /** In every state: either the calls that are refused, or the others and the number of rows they answer. */
    private static void dueAnswers(String name, RowCall call, int more, RowTest isRefused, boolean onlyRefused) {
        for (States.State state : States.all()) {
            int rows = States.rows(state.make());
            for (int key : KEYS_AND_OTHERS) {
                for (int value : VALUES) {
                    boolean refused = isRefused.holds(state.make(), key, value);
                    if (refused == onlyRefused) {
                        GroupChangelog x = state.make();
                        String what = state.name() + ", " + name + "(" + key + ", " + value + ")";
                        due(what, call.make(x, key, value), refused ? -1 : rows + more);
                        due(what + ", rows then", States.rows(x), refused ? rows : rows + more);
                    }
                }
            }
        }
    }

    private static boolean refusesInsert(GroupChangelog x, int key, int value) {
        return !isKey(key) || States.rows(x) == 40 || x.pending() > 22;
    }

    static void insertAddsARow() {
        dueOneRowInAnyState("insert", GroupChangelog::insert, 1);
    }

    static void insertIsRefused() {
        dueAnswers("insert", GroupChangelog::insert, 1, PromiseSentences::refusesInsert, true);
    }

    static void insertAnswersTheRows() {
        dueAnswers("insert", GroupChangelog::insert, 1, PromiseSentences::refusesInsert, false);
    }

    // Promise 3

    private static boolean refusesRemove(GroupChangelog x, int key, int value) {
        return !States.hasRow(x, key, value) || x.pending() > 22;
    }

    static void removeTakesOneRow() {
        dueOneRowInAnyState("remove", GroupChangelog::remove, -1);
        GroupChangelog x = withRows(1, 6, 6, 6);
        x.remove(1, 6);
        due("one of three equal rows", x.now(1, 0), 2);
    }

    static void removeIsRefused() {
        dueAnswers("remove", GroupChangelog::remove, -1, PromiseSentences::refusesRemove, true);
    }

    static void removeAnswersTheRows() {
        dueAnswers("remove", GroupChangelog::remove, -1, PromiseSentences::refusesRemove, false);
        GroupChangelog x = withRows(5, differentValues(40));
        for (int value = 39; value >= 0; value--) {
            due("remove(5, " + value + ")", x.remove(5, value), value);
            x.take(24);
        }
    }

    // Promise 4

    static void removeGroupTakesAllRows() {
        for (States.State state : States.all()) {
            for (int key = 0; key < 8; key++) {
                GroupChangelog x = state.make();
                if (x.removeGroup(key) != -1) {
                    String what = state.name() + ", removeGroup(" + key + ")";
                    List<List<Integer>> want = new ArrayList<>(groups(state.make()));
                    want.set(key, List.of(0, 0, 0, 0, 0, 0));
                    dueSame(what, groups(x), want);
                    due(what + ", below", x.below(key, MAX), 0);
                }
            }
        }
    }

    private static void dueRemoveGroup(boolean onlyRefused) {
        for (States.State state : States.all()) {
            int rows = States.rows(state.make());
            for (int key : KEYS_AND_OTHERS) {
                GroupChangelog x = state.make();
                boolean refused = !isKey(key) || x.pending() > 22;
                if (refused == onlyRefused) {
                    String what = state.name() + ", removeGroup(" + key + ")";
                    int removed = refused ? 0 : x.now(key, 0);
                    due(what, x.removeGroup(key), refused ? -1 : removed);
                    due(what + ", rows then", States.rows(x), rows - removed);
                }
            }
        }
    }

    static void removeGroupIsRefused() {
        dueRemoveGroup(true);
    }

    static void removeGroupAnswersHowMany() {
        dueRemoveGroup(false);
        for (int n = 0; n <= 40; n++) {
            due(n + " rows", withRows(2, differentValues(n)).removeGroup(2), n);
        }
    }

    // Promise 5

    private static int clamped(int limit) {
        return Math.max(0, Math.min(40, limit));
    }

    /** The rows of one key come one by one: each makes an entry for what was shown and one for what is. */
    private static void dueEntriesOfRows(String what, GroupChangelog x, int[] values, IntPredicate shownWith) {
        for (int n = 1; n <= values.length; n++) {
            x.insert(4, values[n - 1]);
            int want = (n > 1 && shownWith.test(n - 1) ? 1 : 0) + (shownWith.test(n) ? 1 : 0);
            due(what + ", row " + n + " makes entries", x.take(24), want);
        }
    }

    static void limitsAreSet() {
        for (int limit : LIMITS) {
            GroupChangelog x = new GroupChangelog();
            x.limits(limit, 40);
            dueEntriesOfRows("floor " + limit, x, sameValues(40, 7), n -> n >= clamped(limit));
            GroupChangelog y = new GroupChangelog();
            y.limits(1, limit);
            dueEntriesOfRows("ceiling " + limit, y, differentValues(40), n -> n <= clamped(limit));
        }
        GroupChangelog x = withRows(0, 1);
        x.limits(2, 1);
        x.take(24);
        x.limits(1, 1);
        due("the floor is set anew", x.take(24), 1);
        x.limits(1, 0);
        due("the ceiling is set anew", x.take(24), 1);
    }

    private static void dueLimits(States.State state, int floor, int ceiling, boolean onlyRefused) {
        GroupChangelog x = state.make();
        int entries = x.pending();
        boolean refused = entries > 0;
        if (refused == onlyRefused) {
            String what = state.name() + ", limits(" + floor + ", " + ceiling + ")";
            int answer = x.limits(floor, ceiling);
            due(what, answer, refused ? -1 : x.pending());
            due(what + ", entries then", x.pending(), refused ? entries : shownOtherwise(state, floor, ceiling));
        }
    }

    /** How many groups are shown under only one of these limits and those of the state. */
    private static int shownOtherwise(States.State state, int floor, int ceiling) {
        return (int) groups(state.make()).stream()
            .filter(group -> isShown(group, state.floor(), state.ceiling())
                != isShown(group, clamped(floor), clamped(ceiling)))
            .count();
    }

    private static void dueAllLimits(boolean onlyRefused) {
        for (States.State state : States.all()) {
            for (int floor : LIMITS) {
                for (int ceiling : LIMITS) {
                    dueLimits(state, floor, ceiling, onlyRefused);
                }
            }
        }
    }

    static void limitsAreRefused() {
        dueAllLimits(true);
    }

    static void limitsAnswersTheEntries() {
        dueAllLimits(false);
    }

    // Promises 6 to 9

    static void pendingCounts() {
        for (int entries = 0; entries <= 24; entries++) {
            GroupChangelog x = withEntries(entries);
            due("entries", x.pending(), entries);
            long places = IntStream.rangeClosed(-5, 30).filter(place -> x.sort(place) != 0).count();
            due("places with an entry", (int) places, entries);
        }
    }

    private static GroupChangelog withSevenEntries() {
        GroupChangelog x = new GroupChangelog();
        x.insert(0, -9);
        x.insert(7, 20);
        x.insert(7, 10);
        x.insert(0, -9);
        x.removeGroup(7);
        return x;
    }

    /** One part of the entry at each place, also when older ones have been taken out. */
    private static void dueAtPlaces(String call, ToIntBiFunction<GroupChangelog, Integer> asked, int part, int ifNone) {
        for (int taken = 0; taken <= 7; taken++) {
            GroupChangelog x = withSevenEntries();
            x.take(taken);
            for (int place = 0; place <= 30; place++) {
                int want = place + taken < 7 ? SEVEN_ENTRIES[place + taken][part] : ifNone;
                due(taken + " taken, " + call + " at " + place, asked.applyAsInt(x, place), want);
            }
            for (int place : NOT_PLACES) {
                due(taken + " taken, " + call + " at " + place, asked.applyAsInt(x, place), ifNone);
            }
        }
    }

    static void sortsOfEntries() {
        dueAtPlaces("sort", GroupChangelog::sort, 0, 0);
    }

    static void keysOfEntries() {
        dueAtPlaces("key", GroupChangelog::key, 1, -1);
    }

    static void fieldsOfEntries() {
        for (int field = 0; field < 6; field++) {
            int f = field;
            dueAtPlaces("field " + f, (x, place) -> x.field(place, f), 2 + f, 0);
        }
        for (int field : NOT_FIELDS) {
            GroupChangelog x = withSevenEntries();
            for (int place = -1; place <= 7; place++) {
                due("field(" + place + ", " + field + ")", x.field(place, field), 0);
            }
        }
    }

    // Promise 10

    private static void dueTake(States.State state, int count) {
        GroupChangelog x = state.make();
        List<List<Integer>> before = log(x);
        int want = Math.max(0, Math.min(before.size(), count));
        x.take(count);
        String what = state.name() + ", take(" + count + ")";
        dueSame(what + ", log", log(x), before.subList(want, before.size()));
        dueSame(what + ", groups", groups(x), groups(state.make()));
    }

    static void takeTakesTheOldest() {
        for (States.State state : States.all()) {
            for (int count = -2; count <= 26; count++) {
                dueTake(state, count);
            }
            dueTake(state, MIN);
            dueTake(state, MAX);
        }
    }

    static void takeAnswersHowMany() {
        for (int entries = 0; entries <= 24; entries++) {
            for (int count = -2; count <= 26; count++) {
                String what = "take(" + count + ") of " + entries;
                due(what, withEntries(entries).take(count), Math.max(0, Math.min(entries, count)));
            }
            due("take(MIN) of " + entries, withEntries(entries).take(MIN), 0);
            due("take(MAX) of " + entries, withEntries(entries).take(MAX), entries);
        }
    }

    // Promise 11

    private static void dueEightGroups(String what, GroupChangelog x) {
        for (int key = 0; key < 8; key++) {
            dueSame(what + ", key " + key, group(x, key), fields(States.EIGHT_GROUPS[key]));
        }
    }

    private static void nowOfEightGroups() {
        GroupChangelog x = States.withEightGroups();
        dueEightGroups("shown", x);
        x.limits(40, 0);
        dueEightGroups("hidden", x);
        for (int key : KEYS_AND_OTHERS) {
            for (int field : NOT_FIELDS) {
                due("now(" + key + ", " + field + ")", x.now(key, field), 0);
            }
            if (!isKey(key)) {
                dueNoGroup("out of range", x, key);
            }
        }
        for (int key = 0; key < 8; key++) {
            x.removeGroup(key);
            dueNoGroup("no rows", x, key);
        }
    }

    private static void nowOfOneThatChanges() {
        GroupChangelog x = new GroupChangelog();
        x.insert(1, 50);
        dueGroup("one row", x, 1, 1, 50, 50, 50, 1, 50);
        x.insert(1, 70);
        dueGroup("two rows", x, 1, 2, 120, 50, 70, 2, 50);
        x.take(24);
        x.limits(3, 40);
        x.insert(0, 70);
        x.remove(1, 50);
        dueGroup("one of them gone, hidden", x, 1, 1, 70, 70, 70, 1, 70);
    }

    static void nowTellsTheGroup() {
        nowOfEightGroups();
        nowOfOneThatChanges();
    }

    // Promise 12

    static void belowCountsRows() {
        GroupChangelog x = States.withEightGroups();
        for (int key = 0; key < 8; key++) {
            for (int value : VALUES) {
                int want = (int) Arrays.stream(States.EIGHT_GROUPS[key]).filter(other -> other < value).count();
                due("below(" + key + ", " + value + ")", x.below(key, value), want);
            }
        }
        for (int key : KEYS_AND_OTHERS) {
            if (!isKey(key)) {
                due("below(" + key + ", MAX)", x.below(key, MAX), 0);
                due("below(" + key + ", 4)", x.below(key, 4), 0);
            }
        }
        GroupChangelog full = withRows(7, differentValues(40));
        for (int value = -1; value <= 41; value++) {
            due("below(7, " + value + ") of 0 to 39", full.below(7, value), clamped(value));
        }
    }
}
