import java.util.ArrayList;
import java.util.Arrays;
import java.util.Collections;
import java.util.List;
import java.util.TreeSet;

/** What the document asks, held in plain lists: a row is a key and a value, an entry a sort, a key and six fields. */
final class Model {
    final List<int[]> rows = new ArrayList<>();
    final List<int[]> log = new ArrayList<>();
    int floor = 1;
    int ceiling = 40;

    List<Integer> valuesOf(int key) {
        List<Integer> values = new ArrayList<>();
        for (int[] row : rows) {
            if (row[0] == key) {
                values.add(row[1]);
            }
        }
        Collections.sort(values);
        return values;
    }

    /** The six fields, or null for a key without rows. */
    int[] group(int key) {
        List<Integer> values = valuesOf(key);
        if (values.isEmpty()) {
            return null;
        }
        int sum = 0;
        for (int value : values) {
            sum += value;
        }
        int n = values.size();
        return new int[] {n, sum, Collections.min(values), Collections.max(values),
            new TreeSet<>(values).size(), values.get((n - 1) / 2)};
    }

    int[][] shownGroups() {
        int[][] shown = new int[8][];
        for (int key = 0; key < 8; key++) {
            int[] group = group(key);
            if (group != null && group[0] >= floor && group[4] <= ceiling) {
                shown[key] = group;
            }
        }
        return shown;
    }

    void compareWith(int[][] before) {
        int[][] after = shownGroups();
        for (int key = 0; key < 8; key++) {
            if (Arrays.equals(before[key], after[key])) {
                continue;
            }
            if (before[key] != null) {
                log.add(entry(1, key, before[key]));
            }
            if (after[key] != null) {
                log.add(entry(2, key, after[key]));
            }
        }
    }

    int[] entry(int sort, int key, int[] f) {
        return new int[] {sort, key, f[0], f[1], f[2], f[3], f[4], f[5]};
    }

    int insert(int key, int value) {
        if (key < 0 || key > 7 || rows.size() == 40 || log.size() > 22) {
            return -1;
        }
        int[][] before = shownGroups();
        rows.add(new int[] {key, value});
        compareWith(before);
        return rows.size();
    }

    int remove(int key, int value) {
        if (log.size() > 22) {
            return -1;
        }
        int[][] before = shownGroups();
        for (int i = 0; i < rows.size(); i++) {
            if (rows.get(i)[0] == key && rows.get(i)[1] == value) {
                rows.remove(i);
                compareWith(before);
                return rows.size();
            }
        }
        return -1;
    }

    int removeGroup(int key) {
        if (key < 0 || key > 7 || log.size() > 22) {
            return -1;
        }
        int[][] before = shownGroups();
        int count = valuesOf(key).size();
        rows.removeIf(row -> row[0] == key);
        compareWith(before);
        return count;
    }

    int limits(int newFloor, int newCeiling) {
        if (!log.isEmpty()) {
            return -1;
        }
        int[][] before = shownGroups();
        floor = Math.min(40, Math.max(0, newFloor));
        ceiling = Math.min(40, Math.max(0, newCeiling));
        compareWith(before);
        return log.size();
    }

    int pending() {
        return log.size();
    }

    private int part(int place, int part, int ifNone) {
        return place >= 0 && place < log.size() ? log.get(place)[part] : ifNone;
    }

    int sort(int place) {
        return part(place, 0, 0);
    }

    int key(int place) {
        return part(place, 1, -1);
    }

    int field(int place, int field) {
        return field >= 0 && field <= 5 ? part(place, 2 + field, 0) : 0;
    }

    int take(int count) {
        int taken = Math.min(Math.max(0, count), log.size());
        log.subList(0, taken).clear();
        return taken;
    }

    int now(int key, int field) {
        int[] group = group(key);
        return group == null || field < 0 || field > 5 ? 0 : group[field];
    }

    int below(int key, int value) {
        int count = 0;
        for (int other : valuesOf(key)) {
            if (other < value) {
                count++;
            }
        }
        return count;
    }
}
