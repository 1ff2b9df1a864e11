import java.util.ArrayList;
import java.util.List;
import java.util.function.Function;
import java.util.function.Supplier;
import java.util.function.ToIntFunction;

/**
 * "A refused call answers -1 and changes nothing": in each of the states every kind of call that is
 * refused there, with the answers about the whole log and table before and after it.
 */
public final class RefusedTests extends Checks {
    private static final int[] VALUES = {MIN, -1, 0, 5, 11, MAX};

    /** Every answer about the log, in 209 calls. */
    private static List<Integer> logAnswers(GroupChangelog x) {
        List<Integer> answers = new ArrayList<>();
        answers.add(x.pending());
        for (int place = -1; place <= 24; place++) {
            answers.add(x.sort(place));
            answers.add(x.key(place));
            for (int field = 0; field < 6; field++) {
                answers.add(x.field(place, field));
            }
        }
        return answers;
    }

    /** Every field of every group, and the rows below some values, in 96 calls. */
    private static List<Integer> tableAnswers(GroupChangelog x) {
        List<Integer> answers = new ArrayList<>();
        for (int key = 0; key < 8; key++) {
            for (int field = 0; field < 6; field++) {
                answers.add(x.now(key, field));
            }
            for (int value : VALUES) {
                answers.add(x.below(key, value));
            }
        }
        return answers;
    }

    private static List<Integer> laterTakes(GroupChangelog x) {
        List<Integer> answers = new ArrayList<>();
        for (int i = 0; i < 25; i++) {
            answers.add(x.sort(0));
            answers.add(x.field(0, 0));
            answers.add(x.take(1));
        }
        return answers;
    }

    private static List<Integer> laterInserts(GroupChangelog x) {
        List<Integer> answers = new ArrayList<>();
        x.take(24);
        for (int i = 0; i < 41; i++) {
            answers.add(x.insert(i % 8, i));
            answers.add(x.take(24));
        }
        return answers;
    }

    private static List<Integer> laterRemoves(GroupChangelog x) {
        List<Integer> answers = new ArrayList<>();
        x.take(24);
        for (int key = 0; key < 8; key++) {
            for (int value = -1; value <= 13; value++) {
                answers.add(x.remove(key, value));
                answers.add(x.take(24));
            }
        }
        return answers;
    }

    private static List<Integer> laterLimits(GroupChangelog x) {
        x.take(24);
        // Back to the start's limits: the entries tell which groups were hidden until now.
        List<Integer> answers = new ArrayList<>();
        answers.add(x.limits(1, 40));
        answers.addAll(logAnswers(x));
        return answers;
    }

    /** Equal rows of one key tell the floor, and different ones the ceiling. */
    private static List<Integer> laterGroup(GroupChangelog x, boolean equal) {
        List<Integer> answers = new ArrayList<>();
        x.take(24);
        for (int key = 0; key < 8; key++) {
            answers.add(x.removeGroup(key));
        }
        answers.add(x.take(24));
        for (int i = 0; i < 40; i++) {
            answers.add(x.insert(2, equal ? 0 : i));
            answers.add(x.take(24));
        }
        return answers;
    }

    private static void dueSame(String what, List<Integer> got, List<Integer> want) {
        due(what + ", number of answers", got.size(), want.size());
        for (int i = 0; i < want.size(); i++) {
            due(what + ", answer " + i, got.get(i), want.get(i));
        }
    }

    private static void dueSameAfter(String what, Supplier<GroupChangelog> made,
            ToIntFunction<GroupChangelog> call, Function<GroupChangelog, List<Integer>> answers) {
        GroupChangelog x = made.get();
        List<Integer> before = answers.apply(x);
        due(what, call.applyAsInt(x), -1);
        dueSame(what + ", the same object before and after", answers.apply(x), before);
    }

    /** For answers that change the object: they are compared with an equal object's that had no refused call. */
    private static void dueSameLater(String what, Supplier<GroupChangelog> made,
            ToIntFunction<GroupChangelog> call, Function<GroupChangelog, List<Integer>> answers) {
        GroupChangelog x = made.get();
        due(what, call.applyAsInt(x), -1);
        dueSame(what + ", later calls", answers.apply(x), answers.apply(made.get()));
    }

    // Each comparison has objects of its own, since one object is good for 512 calls only.
    private static void dueRefused(String what, Supplier<GroupChangelog> made, ToIntFunction<GroupChangelog> call) {
        dueSameAfter(what, made, call, RefusedTests::logAnswers);
        dueSameAfter(what, made, call, RefusedTests::tableAnswers);
        dueSameLater(what, made, call, RefusedTests::laterTakes);
        dueSameLater(what, made, call, RefusedTests::laterInserts);
        dueSameLater(what, made, call, RefusedTests::laterRemoves);
        dueSameLater(what, made, call, RefusedTests::laterLimits);
        dueSameLater(what, made, call, x -> laterGroup(x, true));
        dueSameLater(what, made, call, x -> laterGroup(x, false));
    }

    private static void wrongKeys(String state, Supplier<GroupChangelog> made) {
        for (int key : NOT_KEYS) {
            dueRefused(state + ", removeGroup(" + key + ")", made, x -> x.removeGroup(key));
            for (int value : VALUES) {
                String args = "(" + key + ", " + value + ")";
                dueRefused(state + ", insert" + args, made, x -> x.insert(key, value));
                dueRefused(state + ", remove" + args, made, x -> x.remove(key, value));
            }
        }
    }

    private static void noSuchRow(String state, Supplier<GroupChangelog> made) {
        int[] values = {MIN, -1, 99, MAX};
        for (int key = 0; key < 8; key++) {
            for (int value : values) {
                int sameKey = key;
                if (!States.hasRow(made.get(), key, value)) {
                    dueRefused(state + ", remove(" + key + ", " + value + ")", made, x -> x.remove(sameKey, value));
                }
            }
        }
    }

    private static void insertOfAnyRow(String state, Supplier<GroupChangelog> made) {
        for (int key = 0; key < 8; key++) {
            for (int value : VALUES) {
                int sameKey = key;
                dueRefused(state + ", insert(" + key + ", " + value + ")", made, x -> x.insert(sameKey, value));
            }
        }
    }

    private static void removeOfAnyRow(String state, Supplier<GroupChangelog> made) {
        for (int value : differentValues(12)) {
            dueRefused(state + ", remove(5, " + value + ")", made, x -> x.remove(5, value));
        }
        for (int key = 0; key < 8; key++) {
            int sameKey = key;
            dueRefused(state + ", removeGroup(" + key + ")", made, x -> x.removeGroup(sameKey));
        }
    }

    private static void anyLimits(String state, Supplier<GroupChangelog> made) {
        int[] limits = {MIN, -1, 0, 1, 2, 12, 40, 41, MAX};
        for (int floor : limits) {
            for (int ceiling : limits) {
                dueRefused(state + ", limits(" + floor + ", " + ceiling + ")", made, x -> x.limits(floor, ceiling));
            }
        }
    }

    private static void everyRefusedCall(String state, Supplier<GroupChangelog> made) {
        boolean tableIsFull = States.rows(made.get()) == 40;
        int entries = made.get().pending();
        wrongKeys(state, made);
        noSuchRow(state, made);
        if (tableIsFull || entries > 22) {
            insertOfAnyRow(state, made);
        }
        if (entries > 22) {
            removeOfAnyRow(state, made);
        }
        if (entries > 0) {
            anyLimits(state, made);
        }
    }

    private static void allStates() {
        for (States.State state : States.all()) {
            everyRefusedCall(state.name(), state.made());
        }
    }

    public static void main(String[] args) {
        sentence("A refused call answers -1 and changes nothing.", RefusedTests::allStates);
        end();
    }
}
