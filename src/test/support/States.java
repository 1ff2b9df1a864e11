import java.util.List;
import java.util.function.Supplier;

/** Objects in the states that the document tells apart: how full the table and the log are, and what is hidden. */
final class States extends Checks {
    /** The values of each key's rows in the objects that withEightGroups makes, in the order in which they came. */
    static final int[][] EIGHT_GROUPS = {
        {5}, {7, 7}, {MIN, MAX}, {-1, -1, -1}, {3, -3, 3}, {2, 0, 1}, {9, 8, 8, 9}, {0, 4, 1, 3, 2}
    };

    /** Each object that is made is in the state named, with this floor and ceiling. */
    record State(String name, int floor, int ceiling, Supplier<GroupChangelog> made) {
        GroupChangelog make() {
            return made.get();
        }
    }

    static List<State> all() {
        return List.of(
            asAtTheStart("a new object", GroupChangelog::new),
            asAtTheStart("one row", () -> withRows(0, 4)),
            new State("hidden groups", 2, 2, States::withHiddenGroups),
            new State("hidden groups, 2 entries", 2, 2, States::withHiddenGroupsAndEntries),
            asAtTheStart("eight groups", States::withEightGroups),
            asAtTheStart("a full table", Checks::withFullTable),
            asAtTheStart("a full table, 1 entry", () -> withFullTableAndEntries(1)),
            asAtTheStart("1 entry", () -> withEntries(1)),
            asAtTheStart("22 entries", () -> withEntries(22)),
            asAtTheStart("23 entries", () -> withEntries(23)),
            asAtTheStart("24 entries", () -> withEntries(24)),
            asAtTheStart("a full table, 23 entries", () -> withFullTableAndEntries(23)),
            asAtTheStart("a full table, 24 entries", () -> withFullTableAndEntries(24)));
    }

    static int rows(GroupChangelog x) {
        int rows = 0;
        for (int key = 0; key < 8; key++) {
            rows += x.now(key, 0);
        }
        return rows;
    }

    static boolean hasRow(GroupChangelog x, int key, int value) {
        return value == MAX ? x.below(key, MAX) < x.now(key, 0) : x.below(key, value) < x.below(key, value + 1);
    }

    static GroupChangelog withEightGroups() {
        GroupChangelog x = new GroupChangelog();
        for (int key = 0; key < 8; key++) {
            addRows(x, key, EIGHT_GROUPS[key]);
        }
        return x;
    }

    private static State asAtTheStart(String name, Supplier<GroupChangelog> made) {
        return new State(name, 1, 40, made);
    }

    private static GroupChangelog withHiddenGroups() {
        GroupChangelog x = withRows(0, 1);
        addRows(x, 3, 5, 5);
        addRows(x, 7, 5, 6, 7);
        x.limits(2, 2);
        x.take(24);
        return x;
    }

    private static GroupChangelog withHiddenGroupsAndEntries() {
        GroupChangelog x = withHiddenGroups();
        x.insert(3, 5);
        return x;
    }

    /** 40 rows, those of key 5 being the newest, and as many entries of theirs as told. */
    private static GroupChangelog withFullTableAndEntries(int entries) {
        GroupChangelog x = withRows(2, differentValues(entries == 24 ? 27 : 28));
        addRowsAndEntries(x, 5, entries);
        return x;
    }
}
