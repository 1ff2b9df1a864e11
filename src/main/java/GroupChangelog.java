/** A small table of rows, and a log of how its grouped result changes; the document is DOC.md. */
public final class GroupChangelog {
    public static final int RETRACT = 1;
    public static final int ASSERT = 2;

    private static final int REFUSED = -1;
    private static final int KEYS = 8;
    private static final int MOST_ROWS = 40;
    private static final int MOST_ENTRIES = 24;
    // A change of one group can make two entries, and both must find room.
    private static final int MOST_ENTRIES_BEFORE_A_CHANGE = 22;
    private static final int LEAST_INT = -2147483648;

    private static final int FIELDS = 6;
    private static final int COUNT = 0;
    private static final int SUM = 1;
    private static final int LEAST = 2;
    private static final int GREATEST = 3;
    private static final int DIFFERENT = 4;
    private static final int MEDIAN = 5;

    private static final int ALL_GROUP_FIELDS = KEYS * FIELDS;
    private static final int ALL_ENTRY_FIELDS = MOST_ENTRIES * FIELDS;

    // The rows stand in ascending order of key, then of value, so that a group is one
    // stretch of the table and its least, greatest and median are found by place.
    private final int[] rowKeys = new int[MOST_ROWS];
    private final int[] rowValues = new int[MOST_ROWS];
    private int rows = 0;

    private int floor = 1;
    private int ceiling = MOST_ROWS;

    // The result as the log last saw it, six fields a key; all 0 for a key without rows.
    private final int[] groupFields = new int[ALL_GROUP_FIELDS];
    private final boolean[] groupShown = new boolean[KEYS];
    private final int[] measured = new int[FIELDS];

    private final int[] entrySorts = new int[MOST_ENTRIES];
    private final int[] entryKeys = new int[MOST_ENTRIES];
    private final int[] entryFields = new int[ALL_ENTRY_FIELDS];
    private int entries = 0;

    public GroupChangelog() {
    }

    public int insert(int key, int value) {
        if (!isKey(key) || rows >= MOST_ROWS || logIsTooFull()) {
            return REFUSED;
        }
        int place = rowsBefore(key, value);
        for (int i = rows; i > place; i--) {
            rowKeys[i] = rowKeys[i - 1];
            rowValues[i] = rowValues[i - 1];
        }
        rowKeys[place] = key;
        rowValues[place] = value;
        rows++;
        logChanges();
        return rows;
    }

    public int remove(int key, int value) {
        int place = rowsBefore(key, value);
        if (!isRowAt(place, key, value) || logIsTooFull()) {
            return REFUSED;
        }
        dropRows(place, 1);
        logChanges();
        return rows;
    }

    public int removeGroup(int key) {
        if (!isKey(key) || logIsTooFull()) {
            return REFUSED;
        }
        int removed = groupFields[key * FIELDS + COUNT];
        int start = rowsBefore(key, LEAST_INT);
        dropRows(start, removed);
        logChanges();
        return removed;
    }

    public int limits(int floor, int ceiling) {
        if (entries > 0) {
            return REFUSED;
        }
        this.floor = clampToRows(floor);
        this.ceiling = clampToRows(ceiling);
        logChanges();
        return entries;
    }

    public int pending() {
        return entries;
    }

    public int sort(int place) {
        return isEntry(place) ? entrySorts[place] : 0;
    }

    public int key(int place) {
        return isEntry(place) ? entryKeys[place] : -1;
    }

    public int field(int place, int field) {
        return isEntry(place) && isField(field) ? entryFields[place * FIELDS + field] : 0;
    }

    public int take(int count) {
        int taken = count;
        if (taken < 0) {
            taken = 0;
        }
        if (taken > entries) {
            taken = entries;
        }
        for (int i = taken; i < entries; i++) {
            moveEntry(i, i - taken);
        }
        entries -= taken;
        return taken;
    }

    public int now(int key, int field) {
        return isKey(key) && isField(field) ? groupFields[key * FIELDS + field] : 0;
    }

    public int below(int key, int value) {
        if (!isKey(key)) {
            return 0;
        }
        return rowsBefore(key, value) - rowsBefore(key, LEAST_INT);
    }

    private boolean isKey(int key) {
        return key >= 0 && key < KEYS;
    }

    private boolean isField(int field) {
        return field >= 0 && field < FIELDS;
    }

    private boolean isEntry(int place) {
        return place >= 0 && place < entries;
    }

    private boolean isRowAt(int place, int key, int value) {
        return place < rows && rowKeys[place] == key && rowValues[place] == value;
    }

    private boolean logIsTooFull() {
        return entries > MOST_ENTRIES_BEFORE_A_CHANGE;
    }

    private int clampToRows(int limit) {
        if (limit < 0) {
            return 0;
        }
        return limit > MOST_ROWS ? MOST_ROWS : limit;
    }

    // Takes any key, also one out of range: remove looks for its row without a test of the key.
    private int rowsBefore(int key, int value) {
        int place = 0;
        while (place < rows
                && (rowKeys[place] < key || (rowKeys[place] == key && rowValues[place] < value))) {
            place++;
        }
        return place;
    }

    private void dropRows(int start, int count) {
        for (int i = start + count; i < rows; i++) {
            rowKeys[i - count] = rowKeys[i];
            rowValues[i - count] = rowValues[i];
        }
        rows -= count;
    }

    private void logChanges() {
        for (int key = 0; key < KEYS; key++) {
            measureGroup(key);
            boolean shownBefore = groupShown[key];
            boolean shownAfter = measuredIsShown();
            boolean unchanged = shownBefore && shownAfter && measuredIsAsBefore(key);
            if (shownBefore && !unchanged) {
                putEntry(RETRACT, key);
            }
            keepMeasured(key, shownAfter);
            if (shownAfter && !unchanged) {
                putEntry(ASSERT, key);
            }
        }
    }

    private void measureGroup(int key) {
        int start = rowsBefore(key, LEAST_INT);
        int end = rowsBefore(key + 1, LEAST_INT);
        int count = end - start;
        int sum = 0;
        int different = 0;
        for (int i = start; i < end; i++) {
            sum += rowValues[i];
            if (i == start || rowValues[i] != rowValues[i - 1]) {
                different++;
            }
        }
        measured[COUNT] = count;
        measured[SUM] = sum;
        measured[LEAST] = count > 0 ? rowValues[start] : 0;
        measured[GREATEST] = count > 0 ? rowValues[end - 1] : 0;
        measured[DIFFERENT] = different;
        measured[MEDIAN] = count > 0 ? rowValues[start + (count - 1) / 2] : 0;
    }

    private boolean measuredIsShown() {
        // A key without rows has no group, so a floor of 0 does not show it.
        return measured[COUNT] > 0 && measured[COUNT] >= floor && measured[DIFFERENT] <= ceiling;
    }

    private boolean measuredIsAsBefore(int key) {
        for (int field = 0; field < FIELDS; field++) {
            if (measured[field] != groupFields[key * FIELDS + field]) {
                return false;
            }
        }
        return true;
    }

    private void keepMeasured(int key, boolean shown) {
        groupShown[key] = shown;
        for (int field = 0; field < FIELDS; field++) {
            groupFields[key * FIELDS + field] = measured[field];
        }
    }

    // There is always room: a call on the table changes one group and so makes at most two
    // entries, and a change of the limits makes at most one a key in an empty log.
    private void putEntry(int sort, int key) {
        entrySorts[entries] = sort;
        entryKeys[entries] = key;
        for (int field = 0; field < FIELDS; field++) {
            entryFields[entries * FIELDS + field] = groupFields[key * FIELDS + field];
        }
        entries++;
    }

    private void moveEntry(int from, int to) {
        entrySorts[to] = entrySorts[from];
        entryKeys[to] = entryKeys[from];
        for (int field = 0; field < FIELDS; field++) {
            entryFields[to * FIELDS + field] = entryFields[from * FIELDS + field];
        }
    }
}
