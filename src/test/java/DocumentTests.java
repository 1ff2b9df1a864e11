import java.io.IOException;
import java.nio.file.Files;
import java.nio.file.Path;
import java.util.function.ToIntFunction;

/**
 * A walk through the document from 'What it is' to 'Promise 12: below': its words stand here in their
 * order, each sentence with its test. Words of the document that are left out or changed are told as wrong.
 */
public final class DocumentTests extends Checks {
    private static String wordsToCome = "";

    /** Goes past words of the document that say nothing of what a call answers or changes. */
    private static void passes(String words) {
        int at = wordsToCome.indexOf(words);
        if (at < 0) {
            wrong("not among the document's next words: \"" + words + "\"");
            return;
        }
        if (at > 0) {
            wrong("the document's words that have no test: \"" + wordsToCome.substring(0, at) + "\"");
        }
        wordsToCome = wordsToCome.substring(at + words.length()).strip();
    }

    private static void says(String words, Runnable test) {
        passes(words);
        sentence(words, test);
    }

    private static void openTheDocument() throws IOException {
        String text = Files.readString(Path.of("../shared/DOC.md")).replaceAll("\\s+", " ");
        wordsToCome = text.substring(Math.max(0, text.indexOf("## What it is")));
    }

    private static void closeTheDocument() {
        if (!wordsToCome.startsWith("## Not promised")) {
            wrong("the document's words that have no test: \"" + wordsToCome + "\"");
        }
    }

    private static void whatItIs() {
        passes("## What it is");
        says("rows come and go in a small table, and a log says row by row how the grouped result "
            + "of the table changes.", TermSentences::theLogTellsTheResult);
        says("An object is used for at most 512 calls after it has been made;", TermSentences::calls512);
        passes("what later calls answer is free.");
    }

    /** A line of the face, with a call of it on an object that has one row, (3, 4), and its entry. */
    private static void face(String line, ToIntFunction<GroupChangelog> call, int want) {
        says(line, () -> {
            GroupChangelog x = new GroupChangelog();
            x.insert(3, 4);
            due("after insert(3, 4)", call.applyAsInt(x), want);
        });
    }

    private static void thePublicFace() {
        passes("## The public face");
        passes("```java public final class GroupChangelog {");
        face("public static final int RETRACT = 1;", x -> GroupChangelog.RETRACT, 1);
        face("public static final int ASSERT = 2;", x -> GroupChangelog.ASSERT, 2);
        face("public GroupChangelog();", x -> new GroupChangelog().pending(), 0);
        face("public int insert(int key, int value);", x -> x.insert(3, 5), 2);
        face("public int remove(int key, int value);", x -> x.remove(3, 4), 0);
        face("public int removeGroup(int key);", x -> x.removeGroup(3), 1);
        face("public int limits(int floor, int ceiling);", x -> x.limits(1, 40), -1);
        face("public int pending();", x -> x.pending(), 1);
        face("public int sort(int place);", x -> x.sort(0), 2);
        face("public int key(int place);", x -> x.key(0), 3);
        face("public int field(int place, int field);", x -> x.field(0, 1), 4);
        face("public int take(int count);", x -> x.take(5), 1);
        face("public int now(int key, int field);", x -> x.now(3, 5), 4);
        face("public int below(int key, int value);", x -> x.below(3, 5), 1);
        passes("} ```");
    }

    private static void termsOfTheTable() {
        passes("## Terms");
        says("THE TABLE holds at most 40 ROWS;", TermSentences::atMost40Rows);
        says("a row is a key from 0 to 7 and a value (an int);", TermSentences::keysAndValues);
        says("equal rows may stand there several times.", TermSentences::equalRows);
        says("THE RESULT. The rows of one key make a GROUP (a key without rows has none).",
            TermSentences::rowsOfOneKeyMakeAGroup);
        says("A group has six FIELDS: 0 the number of its rows;", TermSentences::numberOfRows);
        says("1 the sum of their values (wrapping as in Java);", TermSentences::sum);
        says("2 the least value;", TermSentences::least);
        says("3 the greatest value;", TermSentences::greatest);
        says("4 the number of different values;", TermSentences::numberOfDifferentValues);
        says("5 the MEDIAN: of the n values in ascending order (equal ones one after the other, counted from 0) "
            + "the one at the place (n - 1) / 2, rounded down.", TermSentences::median);
        says("A group is SHOWN if its number of rows is at least the FLOOR and its number of different values "
            + "is at most the CEILING.", TermSentences::shownByFloorAndCeiling);
        says("At the start the floor is 1 and the ceiling is 40.", TermSentences::limitsAtTheStart);
    }

    private static void termsOfTheLog() {
        says("THE LOG is a queue of ENTRIES, at most 24, empty at the start.", TermSentences::queue);
        says("An entry has a sort (RETRACT or ASSERT), a key, and six fields.", TermSentences::partsOfAnEntry);
        says("Whenever a call changes the table, the floor or the ceiling, then for every key, in ascending order, "
            + "the group before and after the call are compared:", TermSentences::everyChangeIsCompared);
        says("if it was shown before and is not shown after with all six fields the same, an entry RETRACT "
            + "with the key and the fields before is put at the end of the log;", TermSentences::retracts);
        says("then, if it is shown after and was not shown before with all six fields the same, an entry ASSERT "
            + "with the key and the fields after is put at the end of the log.", TermSentences::thenAsserts);
        says("(So a group that is shown before and after with the same fields makes no entry.)",
            TermSentences::sameFieldsMakeNoEntry);
        says("A refused call answers -1 and changes nothing.", TermSentences::refusedCalls);
        says("The constants: `RETRACT = 1`, `ASSERT = 2`: Sorts of entries.", TermSentences::constants);
    }

    private static void promises1To3() {
        passes("## Promise 1: A new object");
        says("`GroupChangelog()`: Empty table, empty log.", PromiseSentences::newObject);

        passes("## Promise 2: insert");
        says("`int insert(int key, int value)`: Adds a row.", PromiseSentences::insertAddsARow);
        says("Refused if key is not from 0 to 7, or 40 rows are held, or the log has more than 22 entries.",
            PromiseSentences::insertIsRefused);
        says("Otherwise answers the number of rows then.", PromiseSentences::insertAnswersTheRows);

        passes("## Promise 3: remove");
        says("`int remove(int key, int value)`: Removes one row with this key and value.",
            PromiseSentences::removeTakesOneRow);
        says("Refused if there is none, or the log has more than 22 entries.", PromiseSentences::removeIsRefused);
        says("Otherwise answers the number of rows then.", PromiseSentences::removeAnswersTheRows);
    }

    private static void promises4And5() {
        passes("## Promise 4: removeGroup");
        says("`int removeGroup(int key)`: Removes all rows with this key.", PromiseSentences::removeGroupTakesAllRows);
        says("Refused if key is not from 0 to 7, or the log has more than 22 entries.",
            PromiseSentences::removeGroupIsRefused);
        says("Otherwise answers how many were removed.", PromiseSentences::removeGroupAnswersHowMany);

        passes("## Promise 5: limits");
        says("`int limits(int floor, int ceiling)`: Sets the floor and the ceiling: each less than 0 becomes 0, "
            + "more than 40 becomes 40.", PromiseSentences::limitsAreSet);
        says("Refused if the log is not empty.", PromiseSentences::limitsAreRefused);
        says("Otherwise answers how many entries the log has then.", PromiseSentences::limitsAnswersTheEntries);
    }

    private static void promises6To9() {
        passes("## Promise 6: pending");
        says("`int pending()`: The number of entries in the log.", PromiseSentences::pendingCounts);

        passes("## Promise 7: sort");
        says("`int sort(int place)`: The sort of the entry at the place in the log (0 is the oldest); "
            + "0 if there is none.", PromiseSentences::sortsOfEntries);

        passes("## Promise 8: key");
        says("`int key(int place)`: The key of the entry at the place; -1 if there is none.",
            PromiseSentences::keysOfEntries);

        passes("## Promise 9: field");
        says("`int field(int place, int field)`: The field (0 to 5) of the entry at the place; 0 if there is none.",
            PromiseSentences::fieldsOfEntries);
    }

    private static void promises10To12() {
        passes("## Promise 10: take");
        says("`int take(int count)`: Takes the oldest entries out of the log: as many as count says, at most all; "
            + "count below 0 is taken as 0.", PromiseSentences::takeTakesTheOldest);
        says("Answers how many were taken out.", PromiseSentences::takeAnswersHowMany);

        passes("## Promise 11: now");
        says("`int now(int key, int field)`: The field (0 to 5) of the group of the key as it is now, "
            + "whether it is shown or not; 0 if key or field is out of range or the key has no rows.",
            PromiseSentences::nowTellsTheGroup);

        passes("## Promise 12: below");
        says("`int below(int key, int value)`: How many rows of the key have a value below the given one; "
            + "0 if key is out of range.", PromiseSentences::belowCountsRows);
    }

    public static void main(String[] args) throws IOException {
        openTheDocument();
        whatItIs();
        thePublicFace();
        termsOfTheTable();
        termsOfTheLog();
        promises1To3();
        promises4And5();
        promises6To9();
        promises10To12();
        closeTheDocument();
        end();
    }
}
