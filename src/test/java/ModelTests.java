import java.util.EnumSet;
import java.util.Set;
import java.util.TreeSet;

/**
 * Runs of up to 512 calls on one object, in each of which every call of the face occurs, with each answer
 * compared with the model's. The runs are drawn from a number sequence with fixed starts, so every run of
 * the test makes the same calls.
 */
public final class ModelTests extends Checks {
    private static final int RUNS = 5000;
    // The document promises nothing of later calls on one object.
    private static final int MOST_CALLS = 512;
    private static final int LOOK_CALLS = 1 + 26 * (2 + 6) + 8 * 6;
    private static final int[] ODD_NUMBERS = {
        MIN, MAX, MIN + 1, -1, 0, 1, 6, 8, 24, 40, 41, 1 << 30
    };

    /** The calls of the face, and how often each is drawn; what take leaves of 27 is field's. */
    private enum Call {
        INSERT(35), REMOVE(12), REMOVE_GROUP(2), LIMITS(8), TAKE(0), FIELD(27), SORT(3), KEY(3), PENDING(3), NOW(3),
        BELOW(4);

        final int weight;

        Call(int weight) {
            this.weight = weight;
        }
    }

    private static final int ALL_WEIGHTS = 100;
    // Each call, with 40 rows or fewer, and with no entry, up to 22 or more.
    private static final int SITUATIONS = Call.values().length * 2 * 3;

    private static final Set<String> met = new TreeSet<>();
    private static long state;
    private static boolean allRight = true;

    private static int draw(int bound) {
        state = state * 6364136223846793005L + 1442695040888963407L;
        return (int) ((state >>> 33) % bound);
    }

    private static int drawOdd(int oneIn, int usual) {
        return draw(oneIn) == 0 ? ODD_NUMBERS[draw(ODD_NUMBERS.length)] : usual;
    }

    /** Draws a call; the more often entries are taken, the emptier the run's log stays. */
    private static Call drawCall(int takes) {
        int drawn = draw(ALL_WEIGHTS);
        for (Call call : Call.values()) {
            int weight = call == Call.TAKE ? takes : call == Call.FIELD ? call.weight - takes : call.weight;
            if (drawn < weight) {
                return call;
            }
            drawn -= weight;
        }
        return Call.BELOW;
    }

    private static void compare(String what, int got, int want) {
        allRight &= got == want;
        due(what, got, want);
    }

    private static void callOnce(String when, Call call, GroupChangelog x, Model m, int keys, int values) {
        int k = drawOdd(25, draw(keys));
        int v = drawOdd(25, draw(values) - values / 2);
        int p = drawOdd(25, draw(26));
        int f = drawOdd(25, draw(6));
        int floor = drawOdd(10, draw(6));
        int ceiling = drawOdd(4, draw(8));
        int count = drawOdd(3, draw(6));
        switch (call) {
            case INSERT -> compare(when + "insert(" + k + ", " + v + ")", x.insert(k, v), m.insert(k, v));
            case REMOVE -> compare(when + "remove(" + k + ", " + v + ")", x.remove(k, v), m.remove(k, v));
            case REMOVE_GROUP -> compare(when + "removeGroup(" + k + ")", x.removeGroup(k), m.removeGroup(k));
            case LIMITS -> compare(when + "limits(" + floor + ", " + ceiling + ")",
                x.limits(floor, ceiling), m.limits(floor, ceiling));
            case TAKE -> compare(when + "take(" + count + ")", x.take(count), m.take(count));
            case FIELD -> compare(when + "field(" + p + ", " + f + ")", x.field(p, f), m.field(p, f));
            case SORT -> compare(when + "sort(" + p + ")", x.sort(p), m.sort(p));
            case KEY -> compare(when + "key(" + p + ")", x.key(p), m.key(p));
            case PENDING -> compare(when + "pending()", x.pending(), m.pending());
            case NOW -> compare(when + "now(" + k + ", " + f + ")", x.now(k, f), m.now(k, f));
            case BELOW -> compare(when + "below(" + k + ", " + v + ")", x.below(k, v), m.below(k, v));
        }
    }

    /** Looks at the whole log and result with LOOK_CALLS calls, so that no wrong state stays unseen. */
    private static void compareAll(String when, GroupChangelog x, Model m) {
        compare(when + "pending()", x.pending(), m.pending());
        for (int place = -1; place <= 24; place++) {
            compare(when + "sort(" + place + ")", x.sort(place), m.sort(place));
            compare(when + "key(" + place + ")", x.key(place), m.key(place));
            for (int f = 0; f < 6; f++) {
                compare(when + "field(" + place + ", " + f + ")", x.field(place, f), m.field(place, f));
            }
        }
        for (int key = 0; key < 8; key++) {
            for (int f = 0; f < 6; f++) {
                compare(when + "now(" + key + ", " + f + ")", x.now(key, f), m.now(key, f));
            }
        }
    }

    private static String situation(Call call, Model m) {
        String rows = m.rows.size() == 40 ? "40 rows" : "fewer rows";
        String entries = m.log.isEmpty() ? "no entry" : m.log.size() > 22 ? "more than 22 entries" : "some entries";
        return call + " with " + rows + " and " + entries;
    }

    private static void runOnce(int run) {
        state = run;
        GroupChangelog x = new GroupChangelog();
        Model m = new Model();
        int keys = 1 + draw(8);
        int values = 1 + draw(12);
        int takes = 5 + draw(20);
        boolean endWithLook = draw(4) != 0;
        Set<Call> notYetMade = EnumSet.allOf(Call.class);
        int fewest = notYetMade.size();
        int calls = endWithLook ? fewest + draw(MOST_CALLS - LOOK_CALLS - fewest + 1) : MOST_CALLS;
        for (int made = 0; made < calls && allRight; made++) {
            Call drawn = drawCall(takes);
            // The last calls of a run are those that have not occurred in it.
            Call call = calls - made > notYetMade.size() ? drawn : notYetMade.iterator().next();
            notYetMade.remove(call);
            met.add(situation(call, m));
            callOnce("run " + run + ", call " + (made + 1) + ": ", call, x, m, keys, values);
        }
        if (allRight) {
            due("run " + run + ": calls of the face that did not occur", notYetMade.size(), 0);
        }
        if (endWithLook && allRight) {
            compareAll("run " + run + ", after " + calls + " calls: ", x, m);
        }
    }

    public static void main(String[] args) {
        for (int run = 0; run < RUNS && allRight; run++) {
            runOnce(run);
        }
        if (allRight) {
            due("situations that occurred, " + met, met.size(), SITUATIONS);
        }
        end();
    }
}
