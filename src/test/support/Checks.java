import java.util.Arrays;
import java.util.stream.IntStream;

/** What the tests share: the answers that are due, and objects in the states that the document names. */
abstract class Checks {
    static final int MIN = Integer.MIN_VALUE;
    static final int MAX = Integer.MAX_VALUE;
    // Times 6 it wraps around to 2, so that a place reckoned from it would be inside the arrays.
    static final int WRAPS_TO_A_PLACE = 715827883;
    static final int[] NOT_KEYS = {-1, 8, 9, MIN, MAX, WRAPS_TO_A_PLACE};
    static final int[] NOT_FIELDS = {-1, 6, 7, MIN, MAX};

    private static int wrong = 0;
    private static String sentence = "";

    /** Runs the test of one sentence of the document; a wrong answer is printed with the sentence. */
    static void sentence(String words, Runnable test) {
        sentence = "\"" + words + "\": ";
        test.run();
        sentence = "";
    }

    static void due(String what, int got, int want) {
        if (got != want) {
            wrong(what + ": answered " + got + ", due is " + want);
        }
    }

    static void dueThat(String what, boolean holds) {
        if (!holds) {
            wrong(what + ": does not hold");
        }
    }

    static void wrong(String what) {
        wrong++;
        System.out.println(sentence + what);
    }

    static void dueEntry(String what, GroupChangelog x, int place, int sort, int key, int... fields) {
        due(what + ", sort(" + place + ")", x.sort(place), sort);
        due(what + ", key(" + place + ")", x.key(place), key);
        for (int f = 0; f < 6; f++) {
            due(what + ", field(" + place + ", " + f + ")", x.field(place, f), fields[f]);
        }
    }

    static void dueNoEntry(String what, GroupChangelog x, int place) {
        dueEntry(what, x, place, 0, -1, 0, 0, 0, 0, 0, 0);
    }

    static void dueGroup(String what, GroupChangelog x, int key, int... fields) {
        for (int f = 0; f < 6; f++) {
            due(what + ", now(" + key + ", " + f + ")", x.now(key, f), fields[f]);
        }
    }

    static void dueNoGroup(String what, GroupChangelog x, int key) {
        dueGroup(what, x, key, 0, 0, 0, 0, 0, 0);
    }

    static GroupChangelog withRows(int key, int... values) {
        GroupChangelog x = new GroupChangelog();
        addRows(x, key, values);
        return x;
    }

    /** Adds the rows and empties the log. */
    static void addRows(GroupChangelog x, int key, int... values) {
        for (int value : values) {
            x.insert(key, value);
            x.take(24);
        }
    }

    static int[] sameValues(int count, int value) {
        int[] values = new int[count];
        Arrays.fill(values, value);
        return values;
    }

    /** The values 0, 1, 2 and so on. */
    static int[] differentValues(int count) {
        return IntStream.range(0, count).toArray();
    }

    /** Ends with 40 rows, five a key with the values 0 to 4, and an empty log. */
    static GroupChangelog withFullTable() {
        GroupChangelog x = new GroupChangelog();
        for (int key = 0; key < 8; key++) {
            addRows(x, key, differentValues(5));
        }
        return x;
    }

    /** Rows of key 5 with the values 0 to 11 (to 12 for 24 entries), and their newest entries, as many as told. */
    static GroupChangelog withEntries(int entries) {
        GroupChangelog x = new GroupChangelog();
        addRowsAndEntries(x, 5, entries);
        return x;
    }

    /** Adds such rows to an empty log, where the first of them is the first that shows the group. */
    static void addRowsAndEntries(GroupChangelog x, int key, int entries) {
        for (int value : differentValues(12)) {
            x.insert(key, value);
        }
        if (entries == 24) {
            x.take(1);
            x.insert(key, 12);
        } else {
            x.take(23 - entries);
        }
    }

    /** Ends the test, with exit code 1 if an answer was wrong. */
    static void end() {
        System.out.println(wrong == 0 ? "all answers are as due" : wrong + " answers are not as due");
        if (wrong != 0) {
            System.exit(1);
        }
    }
}
