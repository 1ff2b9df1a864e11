import java.util.ArrayList;
import java.util.Arrays;
import java.util.List;
import java.util.function.ToIntFunction;
import java.util.stream.IntStream;

/** The tests of the document's sentences under 'What it is' and 'Terms', in their order. */
final class TermSentences extends Looks {
    /** A call that the document may refuse. */
    private record Call(String name, ToIntFunction<GroupChangelog> made) {
        int make(GroupChangelog x) {
            return made.applyAsInt(x);
        }
    }

    private static List<Call> changesOfTheTable() {
        List<Call> calls = new ArrayList<>();
        for (int key : KEYS_AND_OTHERS) {
            calls.add(new Call("removeGroup(" + key + ")", x -> x.removeGroup(key)));
            for (int value : VALUES) {
                String args = "(" + key + ", " + value + ")";
                calls.add(new Call("insert" + args, x -> x.insert(key, value)));
                calls.add(new Call("remove" + args, x -> x.remove(key, value)));
            }
        }
        return calls;
    }

    // What it is

    /** Whoever follows the log has the result: it takes out what is retracted and puts in what is asserted. */
    private static void followTheLog(String what, GroupChangelog x, List<List<Integer>> followed) {
        for (List<Integer> entry : log(x)) {
            int key = entry.get(1);
            List<Integer> fields = entry.subList(2, 8);
            dueSame(what + ", known of key " + key, followed.get(key), entry.get(0) == RETRACT ? fields : List.of());
            followed.set(key, entry.get(0) == RETRACT ? List.of() : fields);
        }
        x.take(24);
    }

    private static void dueFollowed(
            String what, GroupChangelog x, List<List<Integer>> followed, int floor, int ceiling) {
        for (int key = 0; key < 8; key++) {
            List<Integer> group = group(x, key);
            dueSame(what + ", key " + key, followed.get(key), isShown(group, floor, ceiling) ? group : List.of());
        }
    }

    static void theLogTellsTheResult() {
        for (int ceiling = 0; ceiling <= 3; ceiling++) {
            GroupChangelog x = new GroupChangelog();
            List<List<Integer>> followed = new ArrayList<>();
            for (int key = 0; key < 8; key++) {
                followed.add(List.of());
            }
            for (int i = 0; i < 9; i++) {
                x.insert(i % 2 * 7, i % 3);
            }
            followTheLog("rows come", x, followed);
            dueFollowed("rows came", x, followed, 1, 40);
            x.limits(3, ceiling);
            followTheLog("limits(3, " + ceiling + ")", x, followed);
            for (int i = 0; i < 8; i++) {
                x.remove(i % 2 * 7, i / 2 % 3);
            }
            followTheLog("rows go", x, followed);
            dueFollowed("rows went", x, followed, 3, ceiling);
        }
    }

    static void calls512() {
        GroupChangelog x = new GroupChangelog();
        for (int call = 1; call <= 512; call += 4) {
            due("call " + call, x.insert(call % 8, call), 1);
            due("call " + (call + 1), x.now(call % 8, 2), call);
            due("call " + (call + 2), x.remove(call % 8, call), 0);
            due("call " + (call + 3), x.take(3), 2);
        }
    }

    // Terms: the table and the result

    static void atMost40Rows() {
        for (States.State state : States.all()) {
            GroupChangelog x = state.make();
            x.take(24);
            for (int rows = States.rows(x) + 1; rows <= 40; rows++) {
                due(state.name() + ", row " + rows, x.insert(rows % 8, rows), rows);
                x.take(24);
            }
            due(state.name() + ", row 41", x.insert(0, 0), -1);
            due(state.name() + ", rows", States.rows(x), 40);
        }
    }

    static void keysAndValues() {
        for (int key : KEYS_AND_OTHERS) {
            for (int value : VALUES) {
                GroupChangelog x = new GroupChangelog();
                String row = "row (" + key + ", " + value + ")";
                due(row + " comes", x.insert(key, value), isKey(key) ? 1 : -1);
                due(row + " has its key and value", x.now(key, 2), isKey(key) ? value : 0);
                due(row + " goes", x.remove(key, value), isKey(key) ? 0 : -1);
            }
        }
    }

    static void equalRows() {
        for (int value : VALUES) {
            GroupChangelog x = withRows(6, sameValues(40, value));
            due("40 rows", x.now(6, 0), 40);
            due("one of them goes", x.remove(6, value), 39);
            due("the others stay", x.now(6, 0), 39);
            due("they go together", x.removeGroup(6), 39);
        }
    }

    static void rowsOfOneKeyMakeAGroup() {
        for (int key = 0; key < 8; key++) {
            GroupChangelog x = States.withEightGroups();
            List<List<Integer>> want = new ArrayList<>(groups(x));
            dueSame("key " + key, want.get(key), fields(States.EIGHT_GROUPS[key]));
            x.removeGroup(key);
            want.set(key, List.of(0, 0, 0, 0, 0, 0));
            dueSame("key " + key + " without rows", groups(x), want);
            x.take(24);
            due("a floor of 0 shows no key without rows", x.limits(0, 40), 0);
        }
    }

    // Terms: the fields

    /** One field of every list of up to four of five values, in a group with neighbours. */
    private static void dueField(int field) {
        int[] five = {MIN, -1, 0, 3, MAX};
        for (int n = 1; n <= 4; n++) {
            for (int number = 0; number < Math.pow(5, n); number++) {
                int[] values = new int[n];
                for (int i = 0, rest = number; i < n; i++, rest /= 5) {
                    values[i] = five[rest % 5];
                }
                GroupChangelog x = withRows(3, values);
                addRows(x, 2, MAX, -1);
                addRows(x, 4, MIN, 3);
                due("field " + field + " of " + Arrays.toString(values), x.now(3, field), fields(values).get(field));
            }
        }
    }

    static void numberOfRows() {
        dueField(0);
    }

    static void sum() {
        dueField(1);
        due("40 times the greatest int", withRows(0, sameValues(40, MAX)).now(0, 1), -40);
        due("39 times the least int", withRows(0, sameValues(39, MIN)).now(0, 1), MIN);
        due("0 to 39", withRows(0, differentValues(40)).now(0, 1), 780);
    }

    static void least() {
        dueField(2);
    }

    static void greatest() {
        dueField(3);
    }

    static void numberOfDifferentValues() {
        dueField(4);
    }

    static void median() {
        dueField(5);
        for (int n = 1; n <= 40; n++) {
            due("of 0 to " + (n - 1), withRows(1, differentValues(n)).now(1, 5), (n - 1) / 2);
            int[] descending = IntStream.range(0, n).map(i -> 100 - i / 2).toArray();
            due("of " + Arrays.toString(descending), withRows(1, descending).now(1, 5), fields(descending).get(5));
        }
    }

    // Terms: what is shown

    static void shownByFloorAndCeiling() {
        for (int floor = 0; floor <= 6; floor++) {
            for (int ceiling = 0; ceiling <= 6; ceiling++) {
                GroupChangelog x = States.withEightGroups();
                x.limits(40, 0);
                due("none is shown", x.take(24), 8);
                x.limits(floor, ceiling);
                List<List<Integer>> want = new ArrayList<>();
                for (int key = 0; key < 8; key++) {
                    if (isShown(fields(States.EIGHT_GROUPS[key]), floor, ceiling)) {
                        want.add(entry(ASSERT, key, fields(States.EIGHT_GROUPS[key])));
                    }
                }
                dueSame("limits(" + floor + ", " + ceiling + ")", log(x), want);
            }
        }
    }

    static void limitsAtTheStart() {
        for (int n = 1; n <= 40; n++) {
            GroupChangelog equal = withRows(4, sameValues(n, 2));
            due(n + " equal rows are shown", equal.limits(1, 40), 0);
            due("a floor of " + (n + 1) + " hides them", equal.limits(n + 1, 40), n == 40 ? 0 : 1);
            GroupChangelog different = withRows(4, differentValues(n));
            due(n + " different rows are shown", different.limits(1, 40), 0);
            due("a ceiling of " + (n - 1) + " hides them", different.limits(1, n - 1), 1);
        }
    }

    // Terms: the log

    private static void atMost24Entries() {
        for (States.State state : States.all()) {
            GroupChangelog x = state.make();
            for (int i = 0; i < 30; i++) {
                x.insert(i % 8, i);
                dueThat(state.name() + ", at most 24 entries", x.pending() <= 24);
            }
            List<List<Integer>> before = log(state.make());
            dueSame(state.name() + ", what was there is still the oldest", log(x).subList(0, before.size()), before);
        }
    }

    private static void firstInFirstOut() {
        GroupChangelog x = new GroupChangelog();
        for (int i = 0; i < 6; i++) {
            x.insert(i * 3 % 8, i);
            x.insert(i * 5 % 8, i);
            List<List<Integer>> before = log(x);
            int taken = x.take(1);
            dueSame("after take(1)", log(x), before.subList(taken, before.size()));
            x.take(24);
        }
    }

    static void queue() {
        due("empty at the start", new GroupChangelog().pending(), 0);
        atMost24Entries();
        firstInFirstOut();
    }

    static void partsOfAnEntry() {
        for (States.State state : States.all()) {
            GroupChangelog x = state.make();
            for (int place = 0; place < x.pending(); place++) {
                String what = state.name() + ", place " + place;
                dueThat(what + ", a sort", x.sort(place) == RETRACT || x.sort(place) == ASSERT);
                dueThat(what + ", a key", isKey(x.key(place)));
                dueThat(what + ", the fields of a group with rows", x.field(place, 0) > 0);
            }
        }
        GroupChangelog x = new GroupChangelog();
        x.insert(6, 40);
        x.insert(6, 30);
        x.insert(6, 40);
        dueSame("the parts", log(x), List.of(
            List.of(ASSERT, 6, 1, 40, 40, 40, 1, 40),
            List.of(RETRACT, 6, 1, 40, 40, 40, 1, 40), List.of(ASSERT, 6, 2, 70, 30, 40, 2, 30),
            List.of(RETRACT, 6, 2, 70, 30, 40, 2, 30), List.of(ASSERT, 6, 3, 110, 30, 40, 2, 40)));
    }

    /** The log that is due after a call: that of before, and the entries of the keys in ascending order. */
    private static void dueLogged(States.State state, Call call, int floorAfter, int ceilingAfter) {
        GroupChangelog before = state.make();
        GroupChangelog after = state.make();
        if (call.make(after) == -1) {
            return;
        }
        List<List<Integer>> want = new ArrayList<>(log(before));
        for (int key = 0; key < 8; key++) {
            List<Integer> old = group(before, key);
            List<Integer> now = group(after, key);
            boolean oldShown = isShown(old, state.floor(), state.ceiling());
            boolean nowShown = isShown(now, floorAfter, ceilingAfter);
            if (oldShown && !(nowShown && now.equals(old))) {
                want.add(entry(RETRACT, key, old));
            }
            if (nowShown && !(oldShown && now.equals(old))) {
                want.add(entry(ASSERT, key, now));
            }
        }
        dueSame(state.name() + ", " + call.name() + ", log", log(after), want);
    }

    static void everyChangeIsCompared() {
        for (States.State state : States.all()) {
            for (Call call : changesOfTheTable()) {
                dueLogged(state, call, state.floor(), state.ceiling());
            }
            for (int floor = 0; floor <= 40; floor += floor < 7 ? 1 : 3) {
                for (int ceiling = 0; ceiling <= 40; ceiling += ceiling < 7 ? 1 : 3) {
                    int f = floor;
                    int c = ceiling;
                    dueLogged(state, new Call("limits(" + f + ", " + c + ")", x -> x.limits(f, c)), f, c);
                }
            }
        }
    }

    static void retracts() {
        GroupChangelog x = withRows(2, 8, 6);
        x.insert(2, 8);
        dueEntry("shown with other fields after", x, 0, RETRACT, 2, 2, 14, 6, 8, 2, 6);
        x.take(24);
        x.limits(4, 40);
        due("hidden after", x.pending(), 1);
        dueEntry("hidden after", x, 0, RETRACT, 2, 3, 22, 6, 8, 2, 8);
        x.take(24);
        x.removeGroup(2);
        due("hidden before", x.pending(), 0);
        GroupChangelog y = withRows(2, 8, 6);
        y.removeGroup(2);
        due("no group after", y.pending(), 1);
        dueEntry("no group after", y, 0, RETRACT, 2, 2, 14, 6, 8, 2, 6);
    }

    static void thenAsserts() {
        GroupChangelog x = new GroupChangelog();
        x.insert(2, 8);
        due("no group before", x.pending(), 1);
        dueEntry("no group before", x, 0, ASSERT, 2, 1, 8, 8, 8, 1, 8);
        x.take(24);
        x.insert(2, 9);
        due("shown with other fields before", x.pending(), 2);
        dueEntry("shown with other fields before", x, 1, ASSERT, 2, 2, 17, 8, 9, 2, 8);
        x.take(24);
        x.limits(1, 1);
        x.take(24);
        x.remove(2, 8);
        due("hidden with other fields before", x.pending(), 1);
        dueEntry("hidden with other fields before", x, 0, ASSERT, 2, 1, 9, 9, 9, 1, 9);
        x.take(24);
        x.limits(2, 1);
        x.take(24);
        x.limits(1, 1);
        due("hidden with the same fields before", x.pending(), 1);
        dueEntry("hidden with the same fields before", x, 0, ASSERT, 2, 1, 9, 9, 9, 1, 9);
    }

    static void sameFieldsMakeNoEntry() {
        GroupChangelog x = States.withEightGroups();
        due("other limits that show them all", x.limits(0, 5), 0);
        x.insert(4, 3);
        due("a change of one group", x.pending(), 2);
        due("its key", x.key(0), 4);
        due("its key", x.key(1), 4);
    }

    static void refusedCalls() {
        List<Call> calls = changesOfTheTable();
        for (int limit : LIMITS) {
            calls.add(new Call("limits(" + limit + ", 3)", x -> x.limits(limit, 3)));
            calls.add(new Call("limits(2, " + limit + ")", x -> x.limits(2, limit)));
        }
        for (States.State state : States.all()) {
            for (Call call : calls) {
                GroupChangelog x = state.make();
                if (call.make(x) == -1) {
                    String what = state.name() + ", " + call.name();
                    dueSame(what + ", log", log(x), log(state.make()));
                    dueSame(what + ", groups", groups(x), groups(state.make()));
                }
            }
        }
    }

    static void constants() {
        GroupChangelog x = new GroupChangelog();
        x.insert(0, 0);
        x.remove(0, 0);
        due("the sort of what comes", x.sort(0), 2);
        due("the sort of what goes", x.sort(1), 1);
        due("RETRACT", RETRACT, 1);
        due("ASSERT", ASSERT, 2);
    }
}
