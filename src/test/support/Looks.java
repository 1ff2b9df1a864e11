import java.util.ArrayList;
import java.util.Arrays;
import java.util.List;
import java.util.stream.IntStream;

/** How tests look at a whole object, and at what the document says of a group's values. */
abstract class Looks extends Checks {
    static final int RETRACT = GroupChangelog.RETRACT;
    static final int ASSERT = GroupChangelog.ASSERT;
    static final int[] VALUES = {MIN, MIN + 1, -1, 0, 4, 5, 6, 11, MAX - 1, MAX};
    static final int[] KEYS_AND_OTHERS = {MIN, -2, -1, 0, 1, 2, 3, 4, 5, 6, 7, 8, 9, WRAPS_TO_A_PLACE, MAX};
    static final int[] LIMITS = {MIN, -41, -1, 0, 1, 2, 3, 20, 39, 40, 41, MAX};

    static List<Integer> group(GroupChangelog x, int key) {
        return IntStream.range(0, 6).map(field -> x.now(key, field)).boxed().toList();
    }

    static List<List<Integer>> groups(GroupChangelog x) {
        return IntStream.range(0, 8).mapToObj(key -> group(x, key)).toList();
    }

    /** The sort, the key and the six fields. */
    static List<Integer> entry(int sort, int key, List<Integer> fields) {
        List<Integer> entry = new ArrayList<>(List.of(sort, key));
        entry.addAll(fields);
        return entry;
    }

    /** The entries, the oldest first; up to 193 calls. */
    static List<List<Integer>> log(GroupChangelog x) {
        return IntStream.range(0, x.pending()).mapToObj(place -> entry(x.sort(place), x.key(place),
            IntStream.range(0, 6).map(field -> x.field(place, field)).boxed().toList())).toList();
    }

    static List<Integer> rowsBelow(GroupChangelog x) {
        return IntStream.range(0, 8).boxed()
            .flatMap(key -> Arrays.stream(VALUES).mapToObj(value -> x.below(key, value))).toList();
    }

    static void dueSame(String what, List<?> got, List<?> want) {
        if (!got.equals(want)) {
            wrong(what + ": answered " + got + ", due is " + want);
        }
    }

    static boolean isKey(int key) {
        return 0 <= key && key <= 7;
    }

    static boolean isShown(List<Integer> group, int floor, int ceiling) {
        return group.get(0) > 0 && group.get(0) >= floor && group.get(4) <= ceiling;
    }

    /** The six fields of these values, by the words of the document. */
    static List<Integer> fields(int... values) {
        int[] ascending = Arrays.stream(values).sorted().toArray();
        int n = values.length;
        return List.of(n, Arrays.stream(values).sum(), ascending[0], ascending[n - 1],
            (int) Arrays.stream(values).distinct().count(), ascending[(n - 1) / 2]);
    }
}
