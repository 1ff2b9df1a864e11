/** One method or more for each promise of the document: ordinary inputs, edges and wrong inputs. */
public final class PromiseTests extends Checks {
    private static void constants() {
        due("RETRACT", GroupChangelog.RETRACT, 1);
        due("ASSERT", GroupChangelog.ASSERT, 2);
    }

    private static void promise1NewObject() {
        GroupChangelog x = new GroupChangelog();
        due("1: pending", x.pending(), 0);
        dueNoEntry("1: new log", x, 0);
        for (int key = 0; key < 8; key++) {
            dueNoGroup("1: new table", x, key);
            due("1: below", x.below(key, MAX), 0);
        }
        due("1: take", x.take(1), 0);
        due("1: first row", x.insert(0, 0), 1);
        due("1: a floor of 1 shows one row", x.pending(), 1);

        GroupChangelog other = new GroupChangelog();
        due("1: objects are apart", other.pending(), 0);
        dueNoGroup("1: objects are apart", other, 0);
    }

    private static void promise1StartLimits() {
        GroupChangelog x = new GroupChangelog();
        for (int value = 0; value < 40; value++) {
            x.take(24);
            x.insert(3, value);
        }
        due("1: a ceiling of 40 shows 40 different values", x.pending(), 2);
        dueEntry("1: 40 different", x, 1, 2, 3, 40, 780, 0, 39, 40, 19);
        x.take(24);
        due("1: the start is limits(1, 40)", x.limits(1, 40), 0);
    }

    private static void promise2Insert() {
        GroupChangelog x = new GroupChangelog();
        due("2: first", x.insert(0, 7), 1);
        due("2: equal row", x.insert(0, 7), 2);
        due("2: other key", x.insert(7, -7), 3);
        due("2: lesser", x.insert(0, MIN), 4);
        due("2: pending", x.pending(), 6);
        dueEntry("2", x, 0, 2, 0, 1, 7, 7, 7, 1, 7);
        dueEntry("2", x, 1, 1, 0, 1, 7, 7, 7, 1, 7);
        dueEntry("2", x, 2, 2, 0, 2, 14, 7, 7, 1, 7);
        dueEntry("2", x, 3, 2, 7, 1, -7, -7, -7, 1, -7);
        dueEntry("2", x, 4, 1, 0, 2, 14, 7, 7, 1, 7);
        dueEntry("2", x, 5, 2, 0, 3, MIN + 14, MIN, 7, 2, 7);
        dueNoEntry("2", x, 6);
    }

    private static void promise2OnlyTheCountChanges() {
        GroupChangelog x = withRows(1, 0);
        due("2: a second 0", x.insert(1, 0), 2);
        due("2: only field 0 differs", x.pending(), 2);
        dueEntry("2: only field 0 differs", x, 0, 1, 1, 1, 0, 0, 0, 1, 0);
        dueEntry("2: only field 0 differs", x, 1, 2, 1, 2, 0, 0, 0, 1, 0);
    }

    private static void promise2WrongKey() {
        GroupChangelog x = withRows(0, 1);
        for (int key : NOT_KEYS) {
            due("2: key " + key, x.insert(key, 1), -1);
        }
        due("2: nothing logged", x.pending(), 0);
        due("2: nothing added", x.insert(7, 1), 2);
    }

    private static void promise2FullTable() {
        GroupChangelog x = withFullTable();
        due("2: row 41", x.insert(0, 9), -1);
        due("2: row 41 makes no entry", x.pending(), 0);
        dueGroup("2: row 41", x, 0, 5, 10, 0, 4, 5, 2);
        due("2: back to 39", x.remove(7, 4), 39);
        due("2: row 40", x.insert(0, 9), 40);
        due("2: row 41 again", x.insert(0, 9), -1);
    }

    private static void promise2FullLog() {
        GroupChangelog x = withEntries(23);
        due("2: 23 entries", x.pending(), 23);
        due("2: refused at 23", x.insert(6, 1), -1);
        dueNoGroup("2: refused at 23", x, 6);
        x.take(1);
        due("2: done at 22", x.insert(5, 12), 13);
        due("2: 24 entries", x.pending(), 24);
        dueEntry("2: last", x, 23, 2, 5, 13, 78, 0, 12, 13, 6);
        due("2: refused at 24", x.insert(5, 13), -1);
        due("2: still 24 entries", x.pending(), 24);
    }

    private static void promise3Remove() {
        GroupChangelog x = withRows(4, 9, 3, 9, 5);
        due("3: one of two equal", x.remove(4, 9), 3);
        dueEntry("3: equal", x, 0, 1, 4, 4, 26, 3, 9, 3, 5);
        dueEntry("3: equal", x, 1, 2, 4, 3, 17, 3, 9, 3, 5);
        due("3: the other", x.remove(4, 9), 2);
        dueEntry("3: greatest", x, 3, 2, 4, 2, 8, 3, 5, 2, 3);
        due("3: least", x.remove(4, 3), 1);
        dueGroup("3: least", x, 4, 1, 5, 5, 5, 1, 5);
        due("3: last", x.remove(4, 5), 0);
        due("3: pending", x.pending(), 7);
        dueEntry("3: last", x, 6, 1, 4, 1, 5, 5, 5, 1, 5);
        dueNoGroup("3: last", x, 4);
        due("3: gone", x.remove(4, 5), -1);
    }

    private static void promise3NoSuchRow() {
        GroupChangelog x = new GroupChangelog();
        due("3: empty table", x.remove(0, 0), -1);
        addRows(x, 2, 5, 7);
        addRows(x, 3, 6);
        due("3: value of another key", x.remove(2, 6), -1);
        due("3: value below", x.remove(2, 4), -1);
        due("3: value above", x.remove(3, MAX), -1);
        due("3: key without rows", x.remove(7, 5), -1);
        for (int key : NOT_KEYS) {
            due("3: key " + key, x.remove(key, 5), -1);
            due("3: key " + key, x.remove(key, 0), -1);
        }
        due("3: nothing logged", x.pending(), 0);
        due("3: nothing removed", x.insert(0, 0), 4);
    }

    private static void promise3FullLog() {
        GroupChangelog x = withEntries(23);
        due("3: refused at 23", x.remove(5, 3), -1);
        due("3: refused keeps the row", x.now(5, 0), 12);
        x.take(1);
        due("3: done at 22", x.remove(5, 3), 11);
        due("3: 24 entries", x.pending(), 24);
        due("3: refused at 24", x.remove(5, 4), -1);
    }

    private static void promise3FromFullTable() {
        GroupChangelog x = withFullTable();
        due("3: first of the full table", x.remove(0, 0), 39);
        dueGroup("3: first of the full table", x, 0, 4, 10, 1, 4, 4, 2);
        dueGroup("3: others stay", x, 7, 5, 10, 0, 4, 5, 2);
    }

    private static void promise4RemoveGroup() {
        GroupChangelog x = withRows(3, 8, 6, 8);
        addRows(x, 0, 1);
        addRows(x, 7, 2, 2);
        due("4: middle", x.removeGroup(3), 3);
        due("4: one entry", x.pending(), 1);
        dueEntry("4", x, 0, 1, 3, 3, 22, 6, 8, 2, 8);
        dueNoGroup("4: gone", x, 3);
        dueGroup("4: others stay", x, 0, 1, 1, 1, 1, 1, 1);
        dueGroup("4: others stay", x, 7, 2, 4, 2, 2, 1, 2);
        due("4: again", x.removeGroup(3), 0);
        due("4: nothing to log", x.pending(), 1);
        due("4: last key", x.removeGroup(7), 2);
        due("4: first key", x.removeGroup(0), 1);
        due("4: table is empty", x.insert(3, 8), 1);
    }

    private static void promise4WrongKey() {
        GroupChangelog x = withRows(0, 1, 2);
        addRows(x, 7, 3);
        for (int key : NOT_KEYS) {
            due("4: key " + key, x.removeGroup(key), -1);
        }
        due("4: nothing logged", x.pending(), 0);
        due("4: nothing removed", x.insert(0, 1), 4);
    }

    private static void promise4FullLog() {
        GroupChangelog x = withEntries(23);
        due("4: refused at 23", x.removeGroup(5), -1);
        due("4: refused at 23 without rows too", x.removeGroup(6), -1);
        due("4: refused keeps the rows", x.now(5, 0), 12);
        x.take(1);
        due("4: without rows at 22", x.removeGroup(6), 0);
        due("4: done at 22", x.removeGroup(5), 12);
        due("4: 23 entries", x.pending(), 23);
    }

    private static void promise4Hidden() {
        GroupChangelog x = new GroupChangelog();
        x.limits(3, 40);
        x.insert(1, 1);
        x.insert(1, 1);
        due("4: hidden group", x.removeGroup(1), 2);
        due("4: hidden group makes no entry", x.pending(), 0);
    }

    private static void promise4FullTable() {
        GroupChangelog x = new GroupChangelog();
        for (int value = 0; value < 40; value++) {
            addRows(x, 6, value);
        }
        due("4: 40 rows", x.removeGroup(6), 40);
        dueEntry("4: 40 rows", x, 0, 1, 6, 40, 780, 0, 39, 40, 19);
    }

    private static void promise5Floor() {
        GroupChangelog x = withRows(2, 4, 4);
        addRows(x, 5, 1, 2, 3);
        addRows(x, 6, 1);
        due("5: floor 3 hides two", x.limits(3, 40), 2);
        dueEntry("5: floor 3", x, 0, 1, 2, 2, 8, 4, 4, 1, 4);
        dueEntry("5: floor 3", x, 1, 1, 6, 1, 1, 1, 1, 1, 1);
        due("5: now tells of a hidden group", x.now(2, 0), 2);
        x.take(24);
        due("5: floor 2 shows one", x.limits(2, 40), 1);
        dueEntry("5: floor 2", x, 0, 2, 2, 2, 8, 4, 4, 1, 4);
        x.take(24);
        due("5: the same again", x.limits(2, 40), 0);
        x.insert(6, 1);
        due("5: reaching the floor", x.pending(), 1);
        dueEntry("5: reaching the floor", x, 0, 2, 6, 2, 2, 1, 1, 1, 1);
        x.remove(6, 1);
        due("5: falling below the floor", x.pending(), 2);
        dueEntry("5: falling below the floor", x, 1, 1, 6, 2, 2, 1, 1, 1, 1);
        x.remove(6, 1);
        due("5: hidden before and after", x.pending(), 2);
    }

    private static void promise5Ceiling() {
        GroupChangelog x = withRows(1, 4, 4, 4);
        addRows(x, 0, 1, 2);
        due("5: ceiling 1 hides one", x.limits(1, 1), 1);
        dueEntry("5: ceiling 1", x, 0, 1, 0, 2, 3, 1, 2, 2, 1);
        x.take(24);
        x.insert(1, 5);
        due("5: past the ceiling", x.pending(), 1);
        dueEntry("5: past the ceiling", x, 0, 1, 1, 3, 12, 4, 4, 1, 4);
        x.take(24);
        x.remove(1, 5);
        due("5: back to the ceiling", x.pending(), 1);
        dueEntry("5: back to the ceiling", x, 0, 2, 1, 3, 12, 4, 4, 1, 4);
        x.take(24);
        due("5: one shown, one hidden", x.limits(3, 40), 0);
        due("5: swap", x.limits(2, 2), 1);
        dueEntry("5: swap", x, 0, 2, 0, 2, 3, 1, 2, 2, 1);
    }

    private static void promise5Swap() {
        GroupChangelog x = withRows(6, 1, 1, 1);
        addRows(x, 2, 1, 2);
        x.limits(3, 40);
        x.take(24);
        addRows(x, 6, 2, 3);
        due("5: shown and hidden in one call", x.limits(2, 2), 2);
        dueEntry("5: ascending keys", x, 0, 2, 2, 2, 3, 1, 2, 2, 1);
        dueEntry("5: ascending keys", x, 1, 1, 6, 5, 8, 1, 3, 3, 1);
    }

    private static void promise5Clamp() {
        GroupChangelog x = new GroupChangelog();
        due("5: no rows", x.limits(0, 40), 0);
        due("5: floor 0 shows no empty group", x.pending(), 0);
        addRows(x, 0, 5);
        due("5: floor 0 shows one row", x.limits(0, 40), 0);
        due("5: below 0 becomes 0", x.limits(MIN, -1), 1);
        due("5: ceiling 0 hides all", x.sort(0), 1);
        x.take(24);
        due("5: above 40 becomes 40", x.limits(-1, MAX), 1);
        x.take(24);
        for (int i = 1; i < 40; i++) {
            addRows(x, 0, 5);
        }
        due("5: a floor of 40 or more shows 40 rows", x.limits(MAX, 41), 0);
        due("5: a floor of 41 is 40", x.limits(41, 40), 0);
        x.remove(0, 5);
        due("5: 39 rows are below it", x.pending(), 1);
        due("5: and are hidden", x.sort(0), 1);
    }

    private static void promise5Refused() {
        GroupChangelog x = new GroupChangelog();
        x.insert(0, 1);
        due("5: refused with one entry", x.limits(5, 5), -1);
        due("5: refused makes no entry", x.pending(), 1);
        x.take(1);
        due("5: the refused limits were not kept", x.limits(1, 40), 0);
        x.insert(0, 2);
        due("5: still shown", x.pending(), 2);
    }

    private static void promise5AllKeys() {
        GroupChangelog x = withFullTable();
        due("5: eight hidden", x.limits(6, 40), 8);
        for (int key = 0; key < 8; key++) {
            dueEntry("5: eight hidden", x, key, 1, key, 5, 10, 0, 4, 5, 2);
        }
        x.take(24);
        due("5: eight shown", x.limits(5, 5), 8);
        for (int key = 0; key < 8; key++) {
            dueEntry("5: eight shown", x, key, 2, key, 5, 10, 0, 4, 5, 2);
        }
    }

    private static void promise6Pending() {
        GroupChangelog x = new GroupChangelog();
        due("6: none", x.pending(), 0);
        x.insert(1, 1);
        due("6: one", x.pending(), 1);
        x.insert(1, 1);
        due("6: three", x.pending(), 3);
        x.take(2);
        due("6: after take", x.pending(), 1);
        x.insert(9, 1);
        x.remove(1, 2);
        x.limits(1, 1);
        due("6: refused calls", x.pending(), 1);
    }

    private static void promises7To9Places() {
        GroupChangelog x = withEntries(23);
        x.take(1);
        x.insert(5, 12);
        due("7: last place", x.sort(23), 2);
        due("8: last place", x.key(23), 5);
        due("9: last place", x.field(23, 0), 13);
        int[] notPlaces = {-1, 24, 25, MIN, MAX};
        for (int place : notPlaces) {
            dueNoEntry("7 to 9: full log", x, place);
        }
        for (int field : NOT_FIELDS) {
            due("9: field " + field, x.field(0, field), 0);
            due("9: field " + field, x.field(1, field), 0);
            due("9: field " + field, x.field(23, field), 0);
        }
        x.take(23);
        dueEntry("7 to 9: moved up", x, 0, 2, 5, 13, 78, 0, 12, 13, 6);
        dueNoEntry("7 to 9: taken", x, 1);
        dueNoEntry("7 to 9: taken", x, 23);
    }

    private static void promise7Sort() {
        GroupChangelog x = new GroupChangelog();
        due("7: empty", x.sort(0), 0);
        x.insert(0, 1);
        x.insert(0, 2);
        due("7: place 0", x.sort(0), GroupChangelog.ASSERT);
        due("7: place 1", x.sort(1), GroupChangelog.RETRACT);
        due("7: place 2", x.sort(2), GroupChangelog.ASSERT);
        due("7: place 3", x.sort(3), 0);
    }

    private static void promise8Key() {
        GroupChangelog x = new GroupChangelog();
        due("8: empty", x.key(0), -1);
        for (int key = 7; key >= 0; key--) {
            x.insert(key, 1);
        }
        for (int place = 0; place < 8; place++) {
            due("8: place " + place, x.key(place), 7 - place);
        }
        due("8: place 8", x.key(8), -1);
    }

    private static void promise9Field() {
        GroupChangelog x = withRows(6, 30, 10, 20, 10);
        x.insert(6, 40);
        dueEntry("9", x, 0, 1, 6, 4, 70, 10, 30, 3, 10);
        dueEntry("9", x, 1, 2, 6, 5, 110, 10, 40, 4, 20);
        x.removeGroup(6);
        dueEntry("9: an entry stays as it was", x, 1, 2, 6, 5, 110, 10, 40, 4, 20);
    }

    private static void promise10Take() {
        GroupChangelog x = new GroupChangelog();
        due("10: empty", x.take(5), 0);
        for (int key = 0; key < 8; key++) {
            x.insert(key, key * 10);
        }
        due("10: none", x.take(0), 0);
        due("10: below 0", x.take(-1), 0);
        due("10: far below 0", x.take(MIN), 0);
        due("10: nothing taken", x.pending(), 8);
        due("10: three", x.take(3), 3);
        due("10: five left", x.pending(), 5);
        for (int place = 0; place < 5; place++) {
            int value = (place + 3) * 10;
            dueEntry("10: the oldest went", x, place, 2, place + 3, 1, value, value, value, 1, value);
        }
        dueNoEntry("10: past the end", x, 5);
        due("10: all", x.take(5), 5);
        x.insert(0, 1);
        due("10: more than all", x.take(MAX), 2);
        due("10: empty again", x.pending(), 0);
        due("10: the table stays", x.now(7, 3), 70);
    }

    private static void promise10TakeMovesBothSorts() {
        GroupChangelog x = new GroupChangelog();
        x.insert(4, 3);
        x.insert(4, 8);
        due("10: one of three", x.take(1), 1);
        dueEntry("10: one of three", x, 0, 1, 4, 1, 3, 3, 3, 1, 3);
        dueEntry("10: one of three", x, 1, 2, 4, 2, 11, 3, 8, 2, 3);
        due("10: one of two", x.take(1), 1);
        dueEntry("10: one of two", x, 0, 2, 4, 2, 11, 3, 8, 2, 3);
    }

    private static void promise11Now() {
        GroupChangelog x = withRows(3, 5, -2, 5, 9);
        dueGroup("11: four rows", x, 3, 4, 17, -2, 9, 3, 5);
        addRows(x, 3, 1);
        dueGroup("11: five rows", x, 3, 5, 18, -2, 9, 4, 5);
        addRows(x, 3, 0);
        dueGroup("11: six rows", x, 3, 6, 18, -2, 9, 5, 1);
        addRows(x, 2, MAX, 1);
        dueGroup("11: the sum wraps", x, 2, 2, MIN, 1, MAX, 2, 1);
        addRows(x, 0, MIN, MIN, -1);
        dueGroup("11: the sum wraps back", x, 0, 3, -1, MIN, -1, 2, MIN);
        dueNoGroup("11: no rows", x, 1);
        dueNoGroup("11: no rows", x, 7);
        for (int key : NOT_KEYS) {
            dueNoGroup("11: no key", x, key);
        }
        for (int field : NOT_FIELDS) {
            due("11: field " + field, x.now(2, field), 0);
            due("11: field " + field, x.now(3, field), 0);
        }
        x.limits(40, 0);
        dueGroup("11: hidden", x, 3, 6, 18, -2, 9, 5, 1);
        x.take(24);
        x.insert(3, 2);
        dueGroup("11: hidden and changed", x, 3, 7, 20, -2, 9, 6, 2);
        due("11: hidden makes no entry", x.pending(), 0);
    }

    private static void promise12Below() {
        GroupChangelog x = withRows(3, 5, -2, 5, 9, MIN, MAX);
        addRows(x, 2, 0, 100);
        addRows(x, 4, -100);
        due("12: least int", x.below(3, MIN), 0);
        due("12: next int", x.below(3, MIN + 1), 1);
        due("12: equal is not below", x.below(3, -2), 1);
        due("12: just above", x.below(3, -1), 2);
        due("12: two equal", x.below(3, 5), 2);
        due("12: past two equal", x.below(3, 6), 4);
        due("12: greatest int", x.below(3, MAX), 5);
        due("12: other key", x.below(2, 101), 2);
        due("12: other key", x.below(4, -100), 0);
        due("12: no rows", x.below(1, MAX), 0);
        due("12: no rows", x.below(7, MAX), 0);
        for (int key : NOT_KEYS) {
            due("12: key " + key, x.below(key, MAX), 0);
            due("12: key " + key, x.below(key, MIN), 0);
        }
        x.limits(40, 40);
        due("12: hidden", x.below(3, 6), 4);
        GroupChangelog full = withFullTable();
        due("12: full table", full.below(7, MAX), 5);
    }

    public static void main(String[] args) {
        constants();
        promise1NewObject();
        promise1StartLimits();
        promise2Insert();
        promise2OnlyTheCountChanges();
        promise2WrongKey();
        promise2FullTable();
        promise2FullLog();
        promise3Remove();
        promise3NoSuchRow();
        promise3FullLog();
        promise3FromFullTable();
        promise4RemoveGroup();
        promise4WrongKey();
        promise4FullLog();
        promise4Hidden();
        promise4FullTable();
        promise5Floor();
        promise5Ceiling();
        promise5Swap();
        promise5Clamp();
        promise5Refused();
        promise5AllKeys();
        promise6Pending();
        promises7To9Places();
        promise7Sort();
        promise8Key();
        promise9Field();
        promise10Take();
        promise10TakeMovesBothSorts();
        promise11Now();
        promise12Below();
        end();
    }
}
