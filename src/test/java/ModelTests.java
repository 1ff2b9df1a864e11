import java.util.ArrayList;
import java.util.Arrays;
import java.util.Collections;
import java.util.List;
import java.util.TreeSet;

/**
 * Long runs of calls, each answer compared with a plain model. The runs are drawn from a number
 * sequence with fixed starts, so every run of the test makes the same calls.
 */
public final class ModelTests {
    private static final int RUNS = 5000;
    // The document promises nothing of later calls on one object.
    private static final int MOST_CALLS = 512;
    private static final int LOOK_CALLS = 26 * (2 + 6) + 8 * 6;
    private static final int[] ODD_NUMBERS = {
        Integer.MIN_VALUE, Integer.MAX_VALUE, Integer.MIN_VALUE + 1, -1, 0, 1, 6, 8, 24, 40, 41, 1 << 30
    };

    /** The document's words, held as lists: rows and entries are int arrays. */
    private static final class Model {
        final List<int[]> rows = new ArrayList<>();
        final List<int[]> log = new ArrayList<>();
        int floor = 1;
        int ceiling = 40;

        List<Integer> valuesOf(int key) {
            List<Integer> values = new ArrayList<>();
            for (int[] row : rows) {
                if (row[0] == key) {
                    values.add(row[1]);
                }
            }
            Collections.sort(values);
            return values;
        }

        /** The six fields, or null for a key without rows. */
        int[] group(int key) {
            List<Integer> values = valuesOf(key);
            if (values.isEmpty()) {
                return null;
            }
            int sum = 0;
            for (int value : values) {
                sum += value;
            }
            int n = values.size();
            return new int[] {n, sum, Collections.min(values), Collections.max(values),
                new TreeSet<>(values).size(), values.get((n - 1) / 2)};
        }

        int[][] shownGroups() {
            int[][] shown = new int[8][];
            for (int key = 0; key < 8; key++) {
                int[] group = group(key);
                if (group != null && group[0] >= floor && group[4] <= ceiling) {
                    shown[key] = group;
                }
            }
            return shown;
        }

        void compareWith(int[][] before) {
            int[][] after = shownGroups();
            for (int key = 0; key < 8; key++) {
                if (Arrays.equals(before[key], after[key])) {
                    continue;
                }
                if (before[key] != null) {
                    log.add(entry(1, key, before[key]));
                }
                if (after[key] != null) {
                    log.add(entry(2, key, after[key]));
                }
            }
        }

        int[] entry(int sort, int key, int[] f) {
            return new int[] {sort, key, f[0], f[1], f[2], f[3], f[4], f[5]};
        }

        int insert(int key, int value) {
            if (key < 0 || key > 7 || rows.size() == 40 || log.size() > 22) {
                return -1;
            }
            int[][] before = shownGroups();
            rows.add(new int[] {key, value});
            compareWith(before);
            return rows.size();
        }

        int remove(int key, int value) {
            if (log.size() > 22) {
                return -1;
            }
            int[][] before = shownGroups();
            for (int i = 0; i < rows.size(); i++) {
                if (rows.get(i)[0] == key && rows.get(i)[1] == value) {
                    rows.remove(i);
                    compareWith(before);
                    return rows.size();
                }
            }
            return -1;
        }

        int removeGroup(int key) {
            if (key < 0 || key > 7 || log.size() > 22) {
                return -1;
            }
            int[][] before = shownGroups();
            int count = valuesOf(key).size();
            rows.removeIf(row -> row[0] == key);
            compareWith(before);
            return count;
        }

        int limits(int newFloor, int newCeiling) {
            if (!log.isEmpty()) {
                return -1;
            }
            int[][] before = shownGroups();
            floor = Math.min(40, Math.max(0, newFloor));
            ceiling = Math.min(40, Math.max(0, newCeiling));
            compareWith(before);
            return log.size();
        }

        int part(int place, int part, int ifNone) {
            return place >= 0 && place < log.size() ? log.get(place)[part] : ifNone;
        }

        int field(int place, int field) {
            return field >= 0 && field <= 5 ? part(place, 2 + field, 0) : 0;
        }

        int take(int count) {
            int taken = Math.min(Math.max(0, count), log.size());
            log.subList(0, taken).clear();
            return taken;
        }

        int now(int key, int field) {
            int[] group = group(key);
            return group == null || field < 0 || field > 5 ? 0 : group[field];
        }

        int below(int key, int value) {
            int count = 0;
            for (int other : valuesOf(key)) {
                if (other < value) {
                    count++;
                }
            }
            return count;
        }
    }

    private static long state;
    private static int wrong = 0;

    private static int draw(int bound) {
        state = state * 6364136223846793005L + 1442695040888963407L;
        return (int) ((state >>> 33) % bound);
    }

    private static int drawOdd(int oneIn, int usual) {
        return draw(oneIn) == 0 ? ODD_NUMBERS[draw(ODD_NUMBERS.length)] : usual;
    }

    private static void compare(int run, int call, String what, int got, int want) {
        if (got != want) {
            wrong++;
            if (wrong <= 50) {
                System.out.println("run " + run + ", call " + call + ": " + what + " answered " + got
                    + ", due is " + want);
            }
        }
    }

    private static void callOnce(int run, int call, GroupChangelog x, Model m, int keys, int values, int hunger) {
        int a = drawOdd(25, draw(keys));
        int v = drawOdd(25, draw(values) - values / 2);
        int p = drawOdd(25, draw(26));
        int f = drawOdd(25, draw(6));
        String args = "(key " + a + ", value " + v + ", place " + p + ", field " + f + ")";
        int which = draw(100);
        if (which < 35) {
            compare(run, call, "insert" + args, x.insert(a, v), m.insert(a, v));
        } else if (which < 47) {
            compare(run, call, "remove" + args, x.remove(a, v), m.remove(a, v));
        } else if (which < 49) {
            compare(run, call, "removeGroup" + args, x.removeGroup(a), m.removeGroup(a));
        } else if (which < 57) {
            int floor = drawOdd(10, draw(6));
            int ceiling = drawOdd(4, draw(8));
            compare(run, call, "limits(" + floor + ", " + ceiling + ")", x.limits(floor, ceiling), m.limits(floor, ceiling));
        } else if (which < 57 + hunger) {
            int count = drawOdd(3, draw(6));
            compare(run, call, "take(" + count + ")", x.take(count), m.take(count));
        } else if (which < 84) {
            compare(run, call, "field" + args, x.field(p, f), m.field(p, f));
        } else if (which < 87) {
            compare(run, call, "sort" + args, x.sort(p), m.part(p, 0, 0));
        } else if (which < 90) {
            compare(run, call, "key" + args, x.key(p), m.part(p, 1, -1));
        } else if (which < 93) {
            compare(run, call, "pending()", x.pending(), m.log.size());
        } else if (which < 96) {
            compare(run, call, "now" + args, x.now(a, f), m.now(a, f));
        } else {
            compare(run, call, "below" + args, x.below(a, v), m.below(a, v));
        }
    }

    /** Looks at the whole log and result with LOOK_CALLS calls, so that no wrong state stays unseen. */
    private static void compareAll(int run, int call, GroupChangelog x, Model m) {
        for (int place = -1; place <= 24; place++) {
            compare(run, call, "sort(" + place + ")", x.sort(place), m.part(place, 0, 0));
            compare(run, call, "key(" + place + ")", x.key(place), m.part(place, 1, -1));
            for (int f = 0; f < 6; f++) {
                compare(run, call, "field(" + place + ", " + f + ")", x.field(place, f), m.field(place, f));
            }
        }
        for (int key = 0; key < 8; key++) {
            for (int f = 0; f < 6; f++) {
                compare(run, call, "now(" + key + ", " + f + ")", x.now(key, f), m.now(key, f));
            }
        }
    }

    private static void runOnce(int run) {
        state = run;
        GroupChangelog x = new GroupChangelog();
        Model m = new Model();
        int keys = 1 + draw(8);
        int values = 1 + draw(12);
        int hunger = 5 + draw(20);
        boolean endWithLook = draw(4) != 0;
        int calls = endWithLook ? 1 + draw(MOST_CALLS - LOOK_CALLS) : MOST_CALLS;
        for (int call = 1; call <= calls && wrong == 0; call++) {
            callOnce(run, call, x, m, keys, values, hunger);
        }
        if (endWithLook && wrong == 0) {
            compareAll(run, calls, x, m);
        }
    }

    public static void main(String[] args) {
        for (int run = 0; run < RUNS && wrong == 0; run++) {
            runOnce(run);
        }
        System.out.println(wrong == 0 ? "all answers are as the model's" : wrong + " answers are not the model's");
        if (wrong != 0) {
            System.exit(1);
        }
    }
}
