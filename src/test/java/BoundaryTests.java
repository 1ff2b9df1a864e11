/**
 * One test for each sentence of the document that names a boundary, on both sides of it, and at the
 * least and the greatest int. That a refused call changes nothing is tested in RefusedTests.
 */
public final class BoundaryTests extends Checks {
    private static final int RETRACT = GroupChangelog.RETRACT;
    private static final int ASSERT = GroupChangelog.ASSERT;
    private static final int[] NOT_PLACES_OF_ANY_LOG = {-1, -2, 24, 25, MIN, MAX, WRAPS_TO_A_PLACE};

    // What it is

    private static void calls512() {
        GroupChangelog x = new GroupChangelog();
        for (int call = 1; call <= 509; call++) {
            due("call " + call, x.now(0, 0), 0);
        }
        due("call 510", x.insert(0, 6), 1);
        due("call 511", x.take(1), 1);
        due("call 512", x.insert(0, 7), 2);
        for (int later = 0; later < 5000; later++) {
            // The answers are free, but no call may throw.
            x.insert(later % 8, later);
            x.take(later % 5 - 1);
            x.remove((later + 3) % 8, later - 5);
            x.limits(later % 7, later % 11);
        }
    }

    // Terms

    private static void constants() {
        due("RETRACT", RETRACT, 1);
        due("ASSERT", ASSERT, 2);
    }

    private static void table40RowsOfOneKey() {
        GroupChangelog x = new GroupChangelog();
        for (int n = 1; n <= 40; n++) {
            due("row " + n, x.insert(3, n), n);
            x.take(24);
        }
        due("row 41", x.insert(3, 41), -1);
        due("rows", x.now(3, 0), 40);
        due("greatest", x.now(3, 3), 40);
    }

    private static void table40RowsOfAllKeys() {
        GroupChangelog x = new GroupChangelog();
        for (int n = 1; n <= 40; n++) {
            due("row " + n, x.insert(n % 8, n), n);
            x.take(24);
        }
        for (int key = 0; key < 8; key++) {
            due("row 41, key " + key, x.insert(key, 1), -1);
            due("rows of key " + key, x.now(key, 0), 5);
        }
    }

    private static void rowKeys() {
        GroupChangelog x = new GroupChangelog();
        for (int key : NOT_KEYS) {
            due("key " + key, x.insert(key, 0), -1);
        }
        due("key 0", x.insert(0, 0), 1);
        due("key 7", x.insert(7, 0), 2);
    }

    private static void rowValues() {
        int[] values = {MIN, MIN + 1, -1, 0, 1, MAX - 1, MAX};
        for (int value : values) {
            GroupChangelog x = new GroupChangelog();
            due("insert " + value, x.insert(2, value), 1);
            dueGroup("value " + value, x, 2, 1, value, value, value, 1, value);
            dueEntry("value " + value, x, 0, ASSERT, 2, 1, value, value, value, 1, value);
            due("remove " + value, x.remove(2, value), 0);
        }
    }

    private static void equalRows() {
        GroupChangelog x = new GroupChangelog();
        for (int n = 1; n <= 40; n++) {
            due("equal row " + n, x.insert(6, MIN), n);
            x.take(24);
        }
        dueGroup("40 equal rows", x, 6, 40, 0, MIN, MIN, 1, MIN);
        for (int n = 39; n >= 0; n--) {
            due("one goes, " + n + " stay", x.remove(6, MIN), n);
            due("rows", x.now(6, 0), n);
            x.take(24);
        }
        due("none is left", x.remove(6, MIN), -1);
    }

    private static void keyWithoutRows() {
        for (int key = 0; key < 8; key++) {
            GroupChangelog x = new GroupChangelog();
            dueNoGroup("never a row", x, key);
            due("no group to show", x.limits(0, 40), 0);
            due("the first row", x.insert(key, 0), 1);
            dueGroup("one row", x, key, 1, 0, 0, 0, 1, 0);
            due("the last row goes", x.remove(key, 0), 0);
            due("no empty group is asserted", x.pending(), 2);
            due("it is retracted", x.sort(1), RETRACT);
            dueNoGroup("no row any more", x, key);
            x.insert(key, 4);
            x.insert(key, 5);
            due("the group goes", x.removeGroup(key), 2);
            due("no empty group is asserted", x.pending(), 6);
            dueNoGroup("no group any more", x, key);
        }
    }

    private static void numberOfRows() {
        due("1 row", withRows(0, 9).now(0, 0), 1);
        due("2 equal rows", withRows(0, 9, 9).now(0, 0), 2);
        due("40 rows", withRows(7, differentValues(40)).now(7, 0), 40);
    }

    private static void dueSum(int want, int... values) {
        GroupChangelog x = withRows(1, values);
        due("sum", x.now(1, 1), want);
        x.removeGroup(1);
        due("sum in the log", x.field(0, 1), want);
    }

    private static void sumWraps() {
        dueSum(MAX, MAX);
        dueSum(MAX, MAX - 1, 1);
        dueSum(MIN, MAX, 1);
        dueSum(-2, MAX, MAX);
        dueSum(MIN, MIN);
        dueSum(MIN, MIN + 1, -1);
        dueSum(MAX, MIN, -1);
        dueSum(0, MIN, MIN);
        dueSum(-1, MIN, MAX);
        dueSum(-40, sameValues(40, MAX));
        dueSum(0, sameValues(40, MIN));
        GroupChangelog x = withRows(4, MAX, 1);
        x.remove(4, 1);
        due("wrapped back", x.now(4, 1), MAX);
    }

    private static void dueLeastAndGreatest(int least, int greatest, int... values) {
        GroupChangelog x = withRows(3, values);
        // Neighbours on both sides, so that a look past the group's end is seen.
        addRows(x, 2, MIN, MAX);
        addRows(x, 4, MIN, MAX);
        due("least", x.now(3, 2), least);
        due("greatest", x.now(3, 3), greatest);
    }

    private static void leastAndGreatest() {
        dueLeastAndGreatest(5, 5, 5);
        dueLeastAndGreatest(-1, 0, 0, -1);
        dueLeastAndGreatest(-1, 1, -1, 0, 1);
        dueLeastAndGreatest(MIN, MIN, MIN);
        dueLeastAndGreatest(MAX, MAX, MAX);
        dueLeastAndGreatest(MIN, MAX, MAX, MIN);
        dueLeastAndGreatest(MIN, MIN + 1, MIN + 1, MIN);
        dueLeastAndGreatest(MAX - 1, MAX, MAX, MAX - 1);
        dueLeastAndGreatest(0, 35, differentValues(36));
    }

    private static void dueDifferent(int want, int... values) {
        due("different values", withRows(0, values).now(0, 4), want);
    }

    private static void differentOnes() {
        dueDifferent(1, 0);
        dueDifferent(1, 0, 0);
        dueDifferent(2, 0, 1);
        dueDifferent(2, 1, 0, 1);
        dueDifferent(3, 1, 0, -1, 0);
        dueDifferent(2, MIN, MAX);
        dueDifferent(2, MIN, 0);
        dueDifferent(2, MIN, MIN + 1, MIN);
        dueDifferent(2, MAX, MAX - 1, MAX);
        dueDifferent(1, sameValues(40, MAX));
        dueDifferent(40, differentValues(40));
        GroupChangelog x = withRows(0, 9);
        addRows(x, 1, 9);
        due("the same value in the next group", x.now(1, 4), 1);
    }

    private static void dueMedian(int want, int... values) {
        due("median of " + values.length, withRows(5, values).now(5, 5), want);
    }

    private static void median() {
        dueMedian(7, 7);
        dueMedian(1, 2, 1);
        dueMedian(2, 3, 1, 2);
        dueMedian(2, 4, 3, 2, 1);
        dueMedian(3, 5, 1, 4, 2, 3);
        dueMedian(3, 6, 5, 4, 3, 2, 1);
        dueMedian(19, differentValues(39));
        dueMedian(19, differentValues(40));
        dueMedian(MIN, MAX, MIN);
        dueMedian(MIN + 1, MAX, MIN, MIN + 1);
        dueMedian(MAX, MAX, MAX);
    }

    private static void medianOfEqualValues() {
        dueMedian(5, 5, 9, 5);
        dueMedian(9, 9, 5, 9);
        dueMedian(5, 9, 9, 5, 5);
        dueMedian(9, 9, 9, 9, 5);
        dueMedian(5, 1, 5, 5, 5, 9);
        dueMedian(8, sameValues(40, 8));
    }

    private static void shownFromTheFloorOn(int floor) {
        GroupChangelog x = new GroupChangelog();
        due("the floor", x.limits(floor, 40), 0);
        for (int n = 1; n < floor; n++) {
            x.insert(4, 6);
            due(n + " rows are below the floor " + floor, x.pending(), 0);
        }
        x.insert(4, 6);
        due("the floor " + floor + " is reached", x.pending(), 1);
        dueEntry("floor " + floor, x, 0, ASSERT, 4, floor, 6 * floor, 6, 6, 1, 6);
        if (floor < 40) {
            x.insert(4, 6);
            due("above the floor " + floor, x.pending(), 3);
            x.remove(4, 6);
        }
        x.take(24);
        x.remove(4, 6);
        due("below the floor " + floor + " again", x.pending(), 1);
        due("retracted", x.sort(0), RETRACT);
    }

    private static void floor() {
        int[] floors = {1, 2, 3, 20, 39, 40};
        for (int floor : floors) {
            shownFromTheFloorOn(floor);
        }
    }

    private static void shownUpToTheCeiling(int ceiling) {
        GroupChangelog x = new GroupChangelog();
        due("the ceiling", x.limits(1, ceiling), 0);
        for (int n = 1; n <= ceiling; n++) {
            x.insert(4, n);
            due(n + " values, the ceiling is " + ceiling, x.sort(x.pending() - 1), ASSERT);
            x.take(24);
        }
        if (ceiling < 40) {
            x.insert(4, MAX);
            due("above the ceiling " + ceiling, x.pending(), ceiling == 0 ? 0 : 1);
            due("sort", x.sort(0), ceiling == 0 ? 0 : RETRACT);
            x.take(24);
            x.remove(4, MAX);
            due("back at the ceiling " + ceiling, x.pending(), ceiling == 0 ? 0 : 1);
            due("sort", x.sort(0), ceiling == 0 ? 0 : ASSERT);
        }
    }

    private static void ceiling() {
        int[] ceilings = {0, 1, 2, 3, 20, 39, 40};
        for (int ceiling : ceilings) {
            shownUpToTheCeiling(ceiling);
        }
        GroupChangelog x = withRows(0, 3);
        x.limits(1, 1);
        due("an equal value is no different one", x.insert(0, 3), 2);
        due("still shown", x.sort(1), ASSERT);
    }

    private static void floorAndCeiling() {
        // Three rows, two different values: shown under a floor up to 3 and a ceiling from 2 on.
        for (int floor = 0; floor <= 5; floor++) {
            for (int ceiling = 0; ceiling <= 4; ceiling++) {
                GroupChangelog x = withRows(2, 8, 9, 9);
                boolean shown = floor <= 3 && ceiling >= 2;
                due("limits(" + floor + ", " + ceiling + ")", x.limits(floor, ceiling), shown ? 0 : 1);
            }
        }
    }

    private static void limitsAtTheStart() {
        GroupChangelog one = new GroupChangelog();
        one.insert(0, 5);
        due("a floor of 1 shows one row", one.pending(), 1);
        GroupChangelog all = withRows(0, differentValues(39));
        all.insert(0, 39);
        due("a ceiling of 40 shows 40 different values", all.pending(), 2);
        all.take(24);
        due("the limits are these already", all.limits(1, 40), 0);
        due("39 would hide the group", all.limits(1, 39), 1);
    }

    private static void logHolds24() {
        due("empty at the start", new GroupChangelog().pending(), 0);
        GroupChangelog x = withEntries(22);
        due("22 entries", x.pending(), 22);
        x.insert(5, 50);
        due("24 entries", x.pending(), 24);
        dueEntry("entry 23", x, 22, RETRACT, 5, 12, 66, 0, 11, 12, 5);
        dueEntry("entry 24", x, 23, ASSERT, 5, 13, 116, 0, 50, 13, 6);
        due("no entry 25", x.insert(5, 51), -1);
        due("still 24 entries", x.pending(), 24);
    }

    private static void aCallThatChangesNothing() {
        GroupChangelog x = withFullTable();
        x.limits(1, 40);
        x.removeGroup(0);
        x.take(24);
        x.removeGroup(0);
        x.take(0);
        x.below(1, 2);
        x.now(1, 2);
        due("no entry", x.pending(), 0);
    }

    private static void keysInAscendingOrder() {
        GroupChangelog x = new GroupChangelog();
        for (int key = 7; key >= 0; key--) {
            addRows(x, key, key);
        }
        due("all go", x.limits(2, 40), 8);
        for (int key = 0; key < 8; key++) {
            dueEntry("all go", x, key, RETRACT, key, 1, key, key, key, 1, key);
        }
        x.take(24);
        due("all come", x.limits(1, 40), 8);
        for (int key = 0; key < 8; key++) {
            dueEntry("all come", x, key, ASSERT, key, 1, key, key, key, 1, key);
        }
    }

    private static void goingAndComingInOneCall() {
        // Even keys have one row, odd ones two different values.
        GroupChangelog x = new GroupChangelog();
        for (int key = 0; key < 8; key++) {
            addRows(x, key, differentValues(1 + key % 2));
        }
        x.limits(1, 1);
        x.take(24);
        due("all change", x.limits(2, 2), 8);
        for (int key = 0; key < 8; key++) {
            due("key", x.key(key), key);
            due("sort", x.sort(key), key % 2 == 0 ? RETRACT : ASSERT);
        }
    }

    private static void retractThenAssert() {
        GroupChangelog x = withRows(7, 3);
        x.insert(7, 4);
        due("two entries", x.pending(), 2);
        dueEntry("first the fields before", x, 0, RETRACT, 7, 1, 3, 3, 3, 1, 3);
        dueEntry("then the fields after", x, 1, ASSERT, 7, 2, 7, 3, 4, 2, 3);
    }

    private static void sameFieldsMakeNoEntry() {
        GroupChangelog x = withRows(0, 1, 2);
        addRows(x, 7, 1, 2);
        due("other limits that show the same", x.limits(2, 2), 0);
        x.insert(3, 1);
        due("another group, and that is hidden", x.pending(), 0);
        x.insert(3, 1);
        due("another group, and that is shown", x.pending(), 1);
        due("its key", x.key(0), 3);
        GroupChangelog y = withRows(0, 0);
        y.insert(0, 0);
        due("one field differs", y.pending(), 2);
    }

    // Promise 1

    private static void newObject() {
        GroupChangelog x = new GroupChangelog();
        due("pending", x.pending(), 0);
        dueNoEntry("log", x, 0);
        due("take", x.take(MAX), 0);
        for (int key = 0; key < 8; key++) {
            dueNoGroup("table", x, key);
            due("below", x.below(key, MAX), 0);
            due("remove", x.remove(key, 0), -1);
            due("removeGroup", x.removeGroup(key), 0);
        }
        due("still no entry", x.pending(), 0);
        due("the first row", x.insert(0, 0), 1);
    }

    // Promise 2

    private static void insertKey() {
        for (int key : NOT_KEYS) {
            due("insert(" + key + ", 0)", new GroupChangelog().insert(key, 0), -1);
            due("insert(" + key + ", MIN)", new GroupChangelog().insert(key, MIN), -1);
            due("insert(" + key + ", MAX)", new GroupChangelog().insert(key, MAX), -1);
        }
        for (int key = 0; key < 8; key++) {
            due("insert(" + key + ", MIN)", new GroupChangelog().insert(key, MIN), 1);
            due("insert(" + key + ", MAX)", new GroupChangelog().insert(key, MAX), 1);
        }
    }

    private static void insertIntoFullTable() {
        GroupChangelog x = withFullTable();
        due("40 are held", x.insert(0, 0), -1);
        due("39 are held", x.remove(0, 0), 39);
        due("39 are held", x.insert(7, MAX), 40);
        due("40 are held again", x.insert(7, MAX), -1);
        due("five go", x.removeGroup(3), 5);
        due("35 are held", x.insert(3, MIN), 36);
    }

    private static void insertWithFullLog() {
        due("21 entries", withEntries(21).insert(5, 99), 13);
        due("22 entries", withEntries(22).insert(5, 99), 13);
        due("23 entries", withEntries(23).insert(5, 99), -1);
        due("24 entries", withEntries(24).insert(5, 99), -1);
        due("22 entries, a new group", withEntries(22).insert(0, 0), 13);
        due("23 entries, there would be room for the one entry", withEntries(23).insert(0, 0), -1);
    }

    /** A hidden group of two rows with key 1, 14 or 15 rows of key 0, and as many of their entries as told. */
    private static GroupChangelog withHiddenGroupAndEntries(int entries) {
        GroupChangelog x = new GroupChangelog();
        x.limits(3, 40);
        addRows(x, 1, 0, 0);
        addRows(x, 0, 0, 1);
        addRowsAndEntries(x, 0, entries);
        return x;
    }

    private static void insertIntoHiddenGroupWithFullLog() {
        due("22 entries", withHiddenGroupAndEntries(22).insert(2, 0), 17);
        due("23 entries, no entry would come", withHiddenGroupAndEntries(23).insert(2, 0), -1);
        due("24 entries, no entry would come", withHiddenGroupAndEntries(24).insert(2, 0), -1);
    }

    // Promise 3

    private static void removeWithoutSuchRow() {
        GroupChangelog x = withRows(0, 5);
        addRows(x, 7, MIN, MAX);
        due("value below", x.remove(0, 4), -1);
        due("value above", x.remove(0, 6), -1);
        due("least int", x.remove(0, MIN), -1);
        due("greatest int", x.remove(0, MAX), -1);
        due("another key's value", x.remove(7, 5), -1);
        due("a key without rows", x.remove(6, MAX), -1);
        for (int key : NOT_KEYS) {
            due("remove(" + key + ", 5)", x.remove(key, 5), -1);
            due("remove(" + key + ", 0)", x.remove(key, 0), -1);
            due("remove(" + key + ", MIN)", x.remove(key, MIN), -1);
            due("remove(" + key + ", MAX)", x.remove(key, MAX), -1);
        }
        due("least int is there", x.remove(7, MIN), 2);
        due("and is gone", x.remove(7, MIN), -1);
        due("greatest int is there", x.remove(7, MAX), 1);
        due("and is gone", x.remove(7, MAX), -1);
        due("the last row", x.remove(0, 5), 0);
        due("the table is empty", x.remove(0, 5), -1);
    }

    private static void removeWithFullLog() {
        due("21 entries", withEntries(21).remove(5, 0), 11);
        due("22 entries", withEntries(22).remove(5, 0), 11);
        due("23 entries", withEntries(23).remove(5, 0), -1);
        due("24 entries", withEntries(24).remove(5, 0), -1);
        due("22 entries, a hidden group", withHiddenGroupAndEntries(22).remove(1, 0), 15);
        due("23 entries, no entry would come", withHiddenGroupAndEntries(23).remove(1, 0), -1);
    }

    private static void removeAnswersTheRows() {
        GroupChangelog x = withFullTable();
        int left = 40;
        for (int key = 0; key < 8; key++) {
            for (int value = 0; value < 5; value++) {
                left--;
                due("rows left", x.remove(key, value), left);
                x.take(24);
            }
        }
    }

    // Promise 4

    private static void removeGroupKey() {
        for (int key : NOT_KEYS) {
            due("removeGroup(" + key + ")", withFullTable().removeGroup(key), -1);
        }
        due("removeGroup(0)", withFullTable().removeGroup(0), 5);
        due("removeGroup(7)", withFullTable().removeGroup(7), 5);
    }

    private static void removeGroupWithFullLog() {
        due("21 entries", withEntries(21).removeGroup(5), 12);
        due("22 entries", withEntries(22).removeGroup(5), 12);
        due("23 entries", withEntries(23).removeGroup(5), -1);
        due("24 entries", withEntries(24).removeGroup(5), -1);
        due("22 entries, no rows", withEntries(22).removeGroup(0), 0);
        due("23 entries, no rows", withEntries(23).removeGroup(0), -1);
        due("22 entries, a hidden group", withHiddenGroupAndEntries(22).removeGroup(1), 2);
        due("23 entries, no entry would come", withHiddenGroupAndEntries(23).removeGroup(1), -1);
    }

    private static void removeGroupAnswersHowMany() {
        due("none", new GroupChangelog().removeGroup(0), 0);
        due("one", withRows(0, MIN).removeGroup(0), 1);
        due("two equal", withRows(7, MAX, MAX).removeGroup(7), 2);
        due("39", withRows(7, differentValues(39)).removeGroup(7), 39);
        GroupChangelog x = withRows(0, sameValues(40, MIN));
        due("40", x.removeGroup(0), 40);
        due("none any more", x.removeGroup(0), 0);
    }

    // Promise 5

    private static void floorBelow0() {
        int[] floors = {MIN, MIN + 1, -41, -40, -1, 0};
        for (int floor : floors) {
            GroupChangelog x = withRows(0, 5);
            due("floor " + floor + " shows one row", x.limits(floor, 40), 0);
            x.insert(1, 5);
            due("floor " + floor + " shows one more group, and no key without rows", x.pending(), 1);
        }
    }

    private static void floorAbove40() {
        int[] floors = {40, 41, 42, MAX - 1, MAX};
        for (int floor : floors) {
            GroupChangelog x = withRows(0, sameValues(40, 5));
            due("floor " + floor + " shows 40 rows", x.limits(floor, 40), 0);
            x.remove(0, 5);
            due("floor " + floor + " hides 39 rows", x.sort(x.pending() - 1), RETRACT);
        }
        GroupChangelog x = withRows(0, sameValues(39, 5));
        due("floor 39 shows 39 rows", x.limits(39, 40), 0);
        due("floor 40 hides 39 rows", x.limits(40, 40), 1);
    }

    private static void ceilingBelow0() {
        int[] ceilings = {MIN, MIN + 1, -41, -40, -1, 0};
        for (int ceiling : ceilings) {
            GroupChangelog x = withRows(0, 5);
            due("ceiling " + ceiling + " hides one value", x.limits(1, ceiling), 1);
            x.take(24);
            due("ceiling 0 is no other", x.limits(1, 0), 0);
            due("ceiling 1 shows it", x.limits(1, 1), 1);
        }
    }

    private static void ceilingAbove40() {
        int[] ceilings = {40, 41, 42, MAX - 1, MAX};
        for (int ceiling : ceilings) {
            GroupChangelog x = withRows(0, differentValues(40));
            due("ceiling " + ceiling + " shows 40 values", x.limits(1, ceiling), 0);
            due("ceiling 39 hides 40 values", x.limits(1, 39), 1);
        }
    }

    private static void limitsWithEntries() {
        due("none", withEntries(0).limits(2, 3), 1);
        due("one", withEntries(1).limits(2, 3), -1);
        due("two", withEntries(2).limits(2, 3), -1);
        due("23", withEntries(23).limits(2, 3), -1);
        due("24", withEntries(24).limits(2, 3), -1);
        due("one, least and greatest int", withEntries(1).limits(MIN, MAX), -1);
        due("one, greatest and least int", withEntries(1).limits(MAX, MIN), -1);
        due("one, and the limits as they are", withEntries(1).limits(1, 40), -1);
    }

    private static void limitsAnswersTheEntries() {
        for (int groups = 0; groups <= 8; groups++) {
            GroupChangelog x = new GroupChangelog();
            for (int key = 8 - groups; key < 8; key++) {
                addRows(x, key, 1);
            }
            due(groups + " groups", x.limits(2, 40), groups);
            due("pending", x.pending(), groups);
        }
    }

    // Promises 6 to 9

    private static void pendingCounts() {
        for (int entries = 0; entries <= 24; entries++) {
            due("entries", withEntries(entries).pending(), entries);
        }
    }

    private static void noSort() {
        for (int entries = 0; entries <= 24; entries++) {
            GroupChangelog x = withEntries(entries);
            // The newest entry is an ASSERT, and they take turns.
            due("the oldest of " + entries, x.sort(0), entries == 0 ? 0 : entries % 2 == 0 ? RETRACT : ASSERT);
            due("the newest of " + entries, x.sort(entries - 1), entries == 0 ? 0 : ASSERT);
            due("past the newest of " + entries, x.sort(entries), 0);
            for (int place : NOT_PLACES_OF_ANY_LOG) {
                due("sort(" + place + ") of " + entries, x.sort(place), 0);
            }
        }
    }

    private static void noKey() {
        for (int entries = 0; entries <= 24; entries++) {
            GroupChangelog x = withEntries(entries);
            due("the oldest of " + entries, x.key(0), entries == 0 ? -1 : 5);
            due("the newest of " + entries, x.key(entries - 1), entries == 0 ? -1 : 5);
            due("past the newest of " + entries, x.key(entries), -1);
            for (int place : NOT_PLACES_OF_ANY_LOG) {
                due("key(" + place + ") of " + entries, x.key(place), -1);
            }
        }
        GroupChangelog x = new GroupChangelog();
        x.insert(0, 1);
        due("key 0 is not none", x.key(0), 0);
        due("none", x.key(1), -1);
    }

    private static void noFieldOfNoEntry() {
        for (int entries = 0; entries <= 24; entries++) {
            GroupChangelog x = withEntries(entries);
            int rows = entries == 24 ? 13 : 12;
            due("the newest of " + entries, x.field(entries - 1, 0), entries == 0 ? 0 : rows);
            for (int field = 0; field < 6; field++) {
                due("past the newest of " + entries, x.field(entries, field), 0);
                for (int place : NOT_PLACES_OF_ANY_LOG) {
                    due("field(" + place + ", " + field + ") of " + entries, x.field(place, field), 0);
                }
            }
        }
    }

    private static void noFieldOfThatNumber() {
        GroupChangelog x = new GroupChangelog();
        x.insert(0, 7);
        x.insert(1, 8);
        x.insert(2, 9);
        for (int place = -1; place <= 3; place++) {
            for (int field : NOT_FIELDS) {
                due("field(" + place + ", " + field + ")", x.field(place, field), 0);
            }
        }
        due("the first field", x.field(1, 0), 1);
        due("the last field", x.field(1, 5), 8);
        // Each of these comes to the place of a field when it is reckoned without a look at both numbers.
        due("field(-1, 7)", x.field(-1, 7), 0);
        due("field(2, -5)", x.field(2, -5), 0);
        due("field(3, -5)", x.field(3, -5), 0);
        due("field(MIN, 2)", x.field(MIN, 2), 0);
    }

    // Promise 10

    private static void dueTake(int entries, int count, int want) {
        GroupChangelog x = withEntries(entries);
        String call = "take(" + count + ") of " + entries;
        due(call, x.take(count), want);
        due(call + ", pending", x.pending(), entries - want);
        due(call + ", the newest stays", x.sort(entries - want - 1), want == entries ? 0 : ASSERT);
        due(call + ", past the newest", x.sort(entries - want), 0);
        due(call + ", again all", x.take(24), entries - want);
    }

    private static void takeAtMostAll() {
        int[] sizes = {0, 1, 2, 23, 24};
        for (int entries : sizes) {
            for (int count = 0; count <= 26; count++) {
                dueTake(entries, count, Math.min(count, entries));
            }
            dueTake(entries, MAX - 1, entries);
            dueTake(entries, MAX, entries);
        }
    }

    private static void takeBelow0() {
        int[] sizes = {0, 1, 2, 23, 24};
        int[] counts = {0, -1, -2, -24, -25, MIN + 1, MIN};
        for (int entries : sizes) {
            for (int count : counts) {
                dueTake(entries, count, 0);
            }
        }
    }

    private static void takeTheOldest() {
        for (int count = 0; count <= 8; count++) {
            GroupChangelog x = new GroupChangelog();
            for (int key = 0; key < 8; key++) {
                x.insert(key, 10 - key);
            }
            x.take(count);
            for (int key = count; key < 8; key++) {
                int value = 10 - key;
                dueEntry("stays", x, key - count, ASSERT, key, 1, value, value, value, 1, value);
            }
            dueNoEntry("past the newest", x, 8 - count);
        }
    }

    // Promise 11

    private static void nowOfHiddenGroup() {
        GroupChangelog x = withRows(3, 4, 6, 6);
        dueGroup("shown", x, 3, 3, 16, 4, 6, 2, 6);
        x.limits(4, 40);
        dueGroup("hidden by the floor", x, 3, 3, 16, 4, 6, 2, 6);
        x.take(24);
        x.limits(1, 1);
        dueGroup("hidden by the ceiling", x, 3, 3, 16, 4, 6, 2, 6);
        x.insert(3, 2);
        dueGroup("hidden and changed", x, 3, 4, 18, 2, 6, 3, 4);
        x.removeGroup(3);
        dueNoGroup("hidden and removed", x, 3);
    }

    private static void nowOutOfRange() {
        GroupChangelog x = withFullTable();
        for (int key : NOT_KEYS) {
            dueNoGroup("key " + key, x, key);
            for (int field : NOT_FIELDS) {
                due("now(" + key + ", " + field + ")", x.now(key, field), 0);
            }
        }
        for (int key = 0; key < 8; key++) {
            for (int field : NOT_FIELDS) {
                due("now(" + key + ", " + field + ")", x.now(key, field), 0);
            }
        }
        // Each of these comes to the place of a field when it is reckoned without a look at both numbers.
        due("now(-1, 6)", x.now(-1, 6), 0);
        due("now(8, -6)", x.now(8, -6), 0);
        due("now(7, -1)", x.now(7, -1), 0);
        due("now(0, 6)", x.now(0, 6), 0);
        dueGroup("the first key", x, 0, 5, 10, 0, 4, 5, 2);
        dueGroup("the last key", x, 7, 5, 10, 0, 4, 5, 2);
    }

    private static void nowWithoutRows() {
        GroupChangelog x = withRows(3, 8);
        dueNoGroup("the key below", x, 2);
        dueNoGroup("the key above", x, 4);
        dueGroup("one row", x, 3, 1, 8, 8, 8, 1, 8);
        x.remove(3, 8);
        dueNoGroup("no row any more", x, 3);
    }

    // Promise 12

    private static void belowTheValue() {
        GroupChangelog x = withRows(3, MIN, MIN, -1, 0, 0, 1, MAX, MAX);
        addRows(x, 2, MIN, 0);
        addRows(x, 4, MIN, 0);
        due("MIN", x.below(3, MIN), 0);
        due("MIN + 1", x.below(3, MIN + 1), 2);
        due("-1", x.below(3, -1), 2);
        due("0", x.below(3, 0), 3);
        due("1", x.below(3, 1), 5);
        due("2", x.below(3, 2), 6);
        due("MAX - 1", x.below(3, MAX - 1), 6);
        due("MAX", x.below(3, MAX), 6);
        x.limits(40, 0);
        due("hidden", x.below(3, MAX), 6);
        due("none of 40 equal rows", withRows(7, sameValues(40, MAX)).below(7, MAX), 0);
        due("all of 40 rows", withRows(0, differentValues(40)).below(0, 40), 40);
        due("all but one of 40 rows", withRows(0, differentValues(40)).below(0, 39), 39);
    }

    private static void belowOutOfRange() {
        GroupChangelog x = withFullTable();
        int[] values = {MIN, 0, 3, MAX};
        for (int key : NOT_KEYS) {
            for (int value : values) {
                due("below(" + key + ", " + value + ")", x.below(key, value), 0);
            }
        }
        due("the first key", x.below(0, MAX), 5);
        due("the last key", x.below(7, MAX), 5);
        x.removeGroup(4);
        due("a key without rows", x.below(4, MAX), 0);
    }

    private static void terms() {
        sentence("THE TABLE holds at most 40 ROWS", BoundaryTests::table40RowsOfOneKey);
        sentence("THE TABLE holds at most 40 ROWS", BoundaryTests::table40RowsOfAllKeys);
        sentence("a row is a key from 0 to 7", BoundaryTests::rowKeys);
        sentence("and a value (an int)", BoundaryTests::rowValues);
        sentence("equal rows may stand there several times", BoundaryTests::equalRows);
        sentence("(a key without rows has none)", BoundaryTests::keyWithoutRows);
        sentence("0 the number of its rows", BoundaryTests::numberOfRows);
        sentence("1 the sum of their values (wrapping as in Java)", BoundaryTests::sumWraps);
        sentence("2 the least value; 3 the greatest value", BoundaryTests::leastAndGreatest);
        sentence("4 the number of different values", BoundaryTests::differentOnes);
        sentence("the one at the place (n - 1) / 2, rounded down", BoundaryTests::median);
        sentence("(equal ones one after the other, counted from 0)", BoundaryTests::medianOfEqualValues);
        sentence("A group is SHOWN if its number of rows is at least the FLOOR", BoundaryTests::floor);
        sentence("and its number of different values is at most the CEILING", BoundaryTests::ceiling);
        sentence("at least the FLOOR and [..] at most the CEILING", BoundaryTests::floorAndCeiling);
        sentence("At the start the floor is 1 and the ceiling is 40", BoundaryTests::limitsAtTheStart);
        sentence("THE LOG is a queue of ENTRIES, at most 24, empty at the start", BoundaryTests::logHolds24);
        sentence("Whenever a call changes the table, the floor or the ceiling", BoundaryTests::aCallThatChangesNothing);
        sentence("for every key, in ascending order", BoundaryTests::keysInAscendingOrder);
        sentence("for every key, in ascending order", BoundaryTests::goingAndComingInOneCall);
        sentence("then, if it is shown after [..], an entry ASSERT", BoundaryTests::retractThenAssert);
        sentence("(So a group that is shown before and after with the same fields makes no entry.)",
            BoundaryTests::sameFieldsMakeNoEntry);
        sentence("The constants: `RETRACT = 1`, `ASSERT = 2`", BoundaryTests::constants);
    }

    private static void promises1To5() {
        sentence("1: Empty table, empty log.", BoundaryTests::newObject);
        sentence("2: Refused if key is not from 0 to 7", BoundaryTests::insertKey);
        sentence("2: or 40 rows are held", BoundaryTests::insertIntoFullTable);
        sentence("2: or the log has more than 22 entries", BoundaryTests::insertWithFullLog);
        sentence("2: or the log has more than 22 entries", BoundaryTests::insertIntoHiddenGroupWithFullLog);
        sentence("3: Refused if there is none", BoundaryTests::removeWithoutSuchRow);
        sentence("3: or the log has more than 22 entries", BoundaryTests::removeWithFullLog);
        sentence("3: Otherwise answers the number of rows then", BoundaryTests::removeAnswersTheRows);
        sentence("4: Refused if key is not from 0 to 7", BoundaryTests::removeGroupKey);
        sentence("4: or the log has more than 22 entries", BoundaryTests::removeGroupWithFullLog);
        sentence("4: Otherwise answers how many were removed", BoundaryTests::removeGroupAnswersHowMany);
        sentence("5: (the floor) less than 0 becomes 0", BoundaryTests::floorBelow0);
        sentence("5: (the floor) more than 40 becomes 40", BoundaryTests::floorAbove40);
        sentence("5: (the ceiling) less than 0 becomes 0", BoundaryTests::ceilingBelow0);
        sentence("5: (the ceiling) more than 40 becomes 40", BoundaryTests::ceilingAbove40);
        sentence("5: Refused if the log is not empty", BoundaryTests::limitsWithEntries);
        sentence("5: Otherwise answers how many entries the log has then", BoundaryTests::limitsAnswersTheEntries);
    }

    private static void promises6To12() {
        sentence("6: The number of entries in the log", BoundaryTests::pendingCounts);
        sentence("7: 0 if there is none", BoundaryTests::noSort);
        sentence("8: -1 if there is none", BoundaryTests::noKey);
        sentence("9: 0 if there is none", BoundaryTests::noFieldOfNoEntry);
        sentence("9: The field (0 to 5) of the entry at the place", BoundaryTests::noFieldOfThatNumber);
        sentence("10: at most all", BoundaryTests::takeAtMostAll);
        sentence("10: count below 0 is taken as 0", BoundaryTests::takeBelow0);
        sentence("10: Takes the oldest entries out of the log", BoundaryTests::takeTheOldest);
        sentence("11: whether it is shown or not", BoundaryTests::nowOfHiddenGroup);
        sentence("11: 0 if key or field is out of range", BoundaryTests::nowOutOfRange);
        sentence("11: or the key has no rows", BoundaryTests::nowWithoutRows);
        sentence("12: How many rows of the key have a value below the given one", BoundaryTests::belowTheValue);
        sentence("12: 0 if key is out of range", BoundaryTests::belowOutOfRange);
    }

    public static void main(String[] args) {
        sentence("An object is used for at most 512 calls after it has been made", BoundaryTests::calls512);
        terms();
        promises1To5();
        promises6To12();
        end();
    }
}
