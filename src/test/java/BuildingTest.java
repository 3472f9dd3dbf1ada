import java.util.function.Consumer;
import java.util.function.ToIntFunction;

/** Promises 1 to 5: a new object, begin, group, value and end. Each test says the words of the document it holds. */
public final class BuildingTest {
    private static final int LEAST = Stores.LEAST;
    private static final int MOST = Stores.MOST;

    public static void main(String[] args) {
        newObjectHoldsNoRecord();
        newObjectHasNoRecordOpen();
        newObjectHoldsNoneOfAnother();

        beginKeepsTheNote();
        beginWithoutANoteKeepsNone();
        beginAnswersTheNumber();
        beginWhileOneIsOpen();
        beginWhileTheTwelfthIsOpen();
        beginWhenThereAreTwelve();

        groupGoesToTheOpenRecord();
        groupKeepsTheTag();
        groupWithoutATagKeepsNone();
        groupAnswersHowManyTheRecordHas();
        groupWhenNoneIsOpen();
        groupWhenTheRecordHasFour();
        groupWhenFortyAreHeldByEndedRecords();
        groupWhenFortyAreHeldWithTheOpenRecord();
        groupWhenTheRecordHasFourAndFortyAreHeld();
        refusedGroupsAreNotHeld();

        valueGoesToTheLastGroup();
        valueAnswersHowManyTheGroupHas();
        valueWhenNoneIsOpen();
        valueWhenTheRecordHasNoGroup();
        valueWhenTheGroupHasFour();
        valueWhenSixtyAreHeldByEndedRecords();
        valueWhenSixtyAreHeldWithTheOpenRecord();
        valueWhenTheGroupHasFourAndSixtyAreHeld();
        refusedValuesAreNotHeld();

        endEndsTheOpenRecord();
        endEndsARecordWithoutGroups();
        endAnswersHowManyAreEnded();
        endWhenNoneIsOpen();
        Due.close();
    }

    private static void newObjectHoldsNoRecord() {
        Due.sentence("Promise 1", "No record.");
        DremelStore x = new DremelStore();
        for (int rec = 0; rec < 12; rec++) {
            Due.is("groups(" + rec + ")", x.groups(rec), -1);
            Due.is("values(" + rec + ", 0)", x.values(rec, 0), -1);
            Due.is("valueAt(" + rec + ", 0, 0)", x.valueAt(rec, 0, 0), 0);
            Due.is("hasNote(" + rec + ")", x.hasNote(rec), -1);
            Due.is("label(" + rec + ", -1)", x.label(rec, -1), 0);
            Due.is("label(" + rec + ", 0)", x.label(rec, 0), 0);
        }
        Due.is("sumByTag(0)", x.sumByTag(0), 0);
        Due.is("recordsWith(all)", x.recordsWith(LEAST, MOST), 0);
    }

    private static void newObjectHasNoRecordOpen() {
        Due.sentence("Promise 1", "No record.");
        DremelStore x = new DremelStore();
        Due.is("end()", x.end(), -1);
        Due.is("group", x.group(true, 1), -1);
        Due.is("value", x.value(1), -1);
        Due.is("begin", x.begin(false, 0), 0);
    }

    private static void newObjectHoldsNoneOfAnother() {
        Due.sentence("Promise 1", "No record.");
        DremelStore x = new DremelStore();
        x.begin(true, 8);
        Stores.add(x, true, 1, 5);
        x.end();
        x.begin(true, 9);
        DremelStore y = new DremelStore();
        Due.is("groups(0) of the second", y.groups(0), -1);
        Due.is("sumByTag(1) of the second", y.sumByTag(1), 0);
        Due.is("end() of the second", y.end(), -1);
        Due.is("begin of the second", y.begin(false, 0), 0);
        Due.is("sumByTag(1) of the first", x.sumByTag(1), 5);
    }

    private static void beginKeepsTheNote() {
        Due.sentence("Promise 2", "Begins a record, with the note (has is true)");
        DremelStore x = new DremelStore();
        for (int note : Stores.INTS) {
            x.begin(true, note);
            x.end();
        }
        for (int rec = 0; rec < Stores.INTS.length; rec++) {
            Due.is("hasNote(" + rec + ")", x.hasNote(rec), 1);
            Due.is("label(" + rec + ", -1)", x.label(rec, -1), Stores.INTS[rec]);
        }
    }

    private static void beginWithoutANoteKeepsNone() {
        Due.sentence("Promise 2", "or without one");
        DremelStore x = new DremelStore();
        for (int note : Stores.INTS) {
            x.begin(false, note);
            x.end();
        }
        for (int rec = 0; rec < Stores.INTS.length; rec++) {
            Due.is("hasNote(" + rec + ")", x.hasNote(rec), 0);
            Due.is("label(" + rec + ", -1)", x.label(rec, -1), 0);
        }
    }

    private static void beginAnswersTheNumber() {
        Due.sentence("Promise 2", "Answers its number");
        DremelStore x = new DremelStore();
        for (int rec = 0; rec < 12; rec++) {
            Due.is("begin", x.begin(rec % 2 == 0, 7), rec);
            x.end();
        }
    }

    private static void beginWhileOneIsOpen() {
        Due.sentence("Promise 2", "-1, and changes nothing, if one is open");
        beginIsRefused("begin beside an empty record", x -> x.begin(true, 7));
        beginIsRefused("begin beside a record without a note", x -> x.begin(false, 7));
        beginIsRefused("begin beside a record with a group", x -> {
            x.begin(true, 7);
            x.group(true, 3);
        });
        beginIsRefused("begin beside a record with a value", x -> {
            x.begin(true, 7);
            Stores.add(x, true, 3, 4);
        });
        beginIsRefused("begin beside the fourth record", x -> {
            Stores.addEmptyRecords(x, 3);
            x.begin(true, 7);
        });
    }

    private static void beginWhileTheTwelfthIsOpen() {
        Due.sentence("Promise 2", "-1, and changes nothing, if one is open or there are 12");
        beginIsRefused("begin beside the twelfth record", x -> {
            Stores.addEmptyRecords(x, 11);
            x.begin(true, 7);
            Stores.add(x, true, 3, 4);
        });
    }

    private static void beginWhenThereAreTwelve() {
        Due.sentence("Promise 2", "-1, and changes nothing, if [..] there are 12");
        DremelStore twelve = new DremelStore();
        Stores.addEmptyRecords(twelve, 11);
        Due.is("begin of the twelfth", twelve.begin(true, 7), 11);
        Due.is("end()", twelve.end(), 12);
        Due.is("begin of a thirteenth", twelve.begin(true, 8), -1);
        Due.is("group after it", twelve.group(true, 1), -1);
        Due.is("value after it", twelve.value(1), -1);
        Due.is("end() after it", twelve.end(), -1);
        beginIsRefused("begin after 12 empty records", x -> Stores.addEmptyRecords(x, 12));
        beginIsRefused("begin after 12 records", x -> {
            for (int rec = 0; rec < 12; rec++) {
                x.begin(true, 100 + rec);
                Stores.add(x, true, rec, 1, 2);
                x.end();
            }
        });
    }

    private static void beginIsRefused(String call, Consumer<DremelStore> build) {
        for (int note : Stores.INTS) {
            Unchanged.by(call + ", note " + note, build, x -> x.begin(true, note));
            Unchanged.by(call + ", no note", build, x -> x.begin(false, note));
        }
    }

    private static void groupGoesToTheOpenRecord() {
        Due.sentence("Promise 3", "Adds a group to the open record");
        DremelStore x = new DremelStore();
        Stores.addRecordOfEmptyGroups(x, 2, 1);
        x.begin(false, 0);
        x.group(true, 9);
        x.end();
        Stores.addEmptyRecords(x, 1);
        Due.is("groups(0)", x.groups(0), 2);
        Due.is("groups(1)", x.groups(1), 1);
        Due.is("label(1, 0)", x.label(1, 0), 9);
        Due.is("values(1, 0)", x.values(1, 0), 0);
        Due.is("groups(2)", x.groups(2), 0);
    }

    private static void groupKeepsTheTag() {
        Due.sentence("Promise 3", "with the tag (has is true)");
        DremelStore x = new DremelStore();
        for (int tag : Stores.INTS) {
            x.begin(true, 77);
            x.group(false, 5);
            x.group(true, tag);
            x.end();
        }
        for (int rec = 0; rec < Stores.INTS.length; rec++) {
            Due.is("label(" + rec + ", 1)", x.label(rec, 1), Stores.INTS[rec]);
        }
    }

    private static void groupWithoutATagKeepsNone() {
        Due.sentence("Promise 3", "or without one");
        DremelStore x = new DremelStore();
        for (int tag : Stores.INTS) {
            x.begin(true, 77);
            Stores.add(x, false, tag, 3);
            x.end();
        }
        for (int rec = 0; rec < Stores.INTS.length; rec++) {
            Due.is("label(" + rec + ", 0)", x.label(rec, 0), 0);
            Due.is("sumByTag(" + Stores.INTS[rec] + ")", x.sumByTag(Stores.INTS[rec]), 0);
        }
    }

    private static void groupAnswersHowManyTheRecordHas() {
        Due.sentence("Promise 3", "Answers the number of its groups then");
        DremelStore x = new DremelStore();
        for (int rec = 0; rec < 3; rec++) {
            x.begin(false, 0);
            for (int count = 1; count <= 4; count++) {
                Due.is("group", x.group(count % 2 == 0, 1), count);
            }
            x.end();
            Due.is("groups(" + rec + ")", x.groups(rec), 4);
        }
    }

    private static void groupWhenNoneIsOpen() {
        Due.sentence("Promise 3", "-1, and changes nothing, if none is open");
        groupIsRefused("group in a new object", x -> { });
        groupIsRefused("group after an empty record", x -> Stores.addEmptyRecords(x, 1));
        groupIsRefused("group after a record with a group", x -> Stores.addRecordOfEmptyGroups(x, 1, 1));
        groupIsRefused("group after 12 records", x -> Stores.addEmptyRecords(x, 12));
    }

    private static void groupWhenTheRecordHasFour() {
        Due.sentence("Promise 3", "-1, and changes nothing, if [..] it has 4 groups");
        Consumer<DremelStore> four = x -> {
            x.begin(false, 0);
            for (int tag = 1; tag <= 4; tag++) {
                Stores.add(x, true, tag, tag);
            }
        };
        groupIsRefused("fifth group of record 0", four);
        groupIsRefused("fifth group of record 11", x -> {
            Stores.addEmptyRecords(x, 11);
            four.accept(x);
        });
        DremelStore x = new DremelStore();
        four.accept(x);
        Due.is("fifth group", x.group(true, 9), -1);
        Due.is("value of the fourth", x.value(11), 2);
        x.end();
        Due.is("groups(0)", x.groups(0), 4);
        Due.is("label(0, 3)", x.label(0, 3), 4);
        Due.is("valueAt(0, 3, 1)", x.valueAt(0, 3, 1), 11);
    }

    private static void groupWhenFortyAreHeldByEndedRecords() {
        Due.sentence("Promise 3", "-1, and changes nothing, if [..] 40 groups are held");
        Consumer<DremelStore> forty = x -> {
            addRecordsOfFourGroups(x, 10);
            x.begin(true, 6);
        };
        groupIsRefused("group 41 in record 10", forty);
        groupIsRefused("group 41 in record 11", x -> {
            forty.accept(x);
            x.end();
            x.begin(false, 0);
        });
        DremelStore x = new DremelStore();
        forty.accept(x);
        Due.is("group 41", x.group(true, 50), -1);
        Due.is("value without a group", x.value(1), -1);
        Due.is("end()", x.end(), 11);
        Due.is("groups(10)", x.groups(10), 0);
        Due.is("label(10, 0)", x.label(10, 0), 0);
        Due.is("groups(9)", x.groups(9), 4);
    }

    private static void groupWhenFortyAreHeldWithTheOpenRecord() {
        Due.sentence("Promise 3", "-1, and changes nothing, if [..] 40 groups are held");
        Consumer<DremelStore> thirtyEight = x -> {
            Stores.addRecordOfEmptyGroups(x, 2, 1);
            addRecordsOfFourGroups(x, 9);
            x.begin(false, 0);
        };
        groupIsRefused("group 41", x -> {
            thirtyEight.accept(x);
            x.group(true, 3);
            x.group(true, 4);
        });
        DremelStore x = new DremelStore();
        thirtyEight.accept(x);
        Due.is("group 39", x.group(true, 3), 1);
        Due.is("group 40", x.group(true, 4), 2);
        Due.is("group 41", x.group(true, 5), -1);
        Due.is("value of group 40", x.value(8), 1);
        x.end();
        Due.is("groups(10)", x.groups(10), 2);
        Due.is("valueAt(10, 1, 0)", x.valueAt(10, 1, 0), 8);
    }

    private static void groupWhenTheRecordHasFourAndFortyAreHeld() {
        Due.sentence("Promise 3", "-1, and changes nothing, if [..] it has 4 groups, or 40 groups are held");
        groupIsRefused("fifth group, and group 41", x -> {
            addRecordsOfFourGroups(x, 9);
            x.begin(false, 0);
            for (int count = 1; count <= 4; count++) {
                Due.is("group", x.group(true, 1), count);
            }
        });
    }

    private static void refusedGroupsAreNotHeld() {
        Due.sentence("Promise 3", "-1, and changes nothing");
        DremelStore x = new DremelStore();
        for (int rec = 0; rec < 10; rec++) {
            Due.is("group with none open", x.group(true, 1), -1);
            x.begin(false, 0);
            for (int count = 1; count <= 4; count++) {
                Due.is("group", x.group(true, 1), count);
            }
            Due.is("fifth group", x.group(true, 1), -1);
            x.end();
        }
    }

    private static void addRecordsOfFourGroups(DremelStore x, int records) {
        for (int turn = 0; turn < records; turn++) {
            Stores.addRecordOfEmptyGroups(x, 4, 10 + turn);
        }
    }

    private static void groupIsRefused(String call, Consumer<DremelStore> build) {
        for (int tag : Stores.INTS) {
            Unchanged.by(call + ", tag " + tag, build, x -> x.group(true, tag));
            Unchanged.by(call + ", no tag", build, x -> x.group(false, tag));
        }
    }

    private static void valueGoesToTheLastGroup() {
        Due.sentence("Promise 4", "Adds a value to the last group of the open record.");
        DremelStore x = new DremelStore();
        x.begin(false, 0);
        Stores.add(x, true, 1, 10);
        x.end();
        x.begin(false, 0);
        Stores.add(x, true, 1, 20, 21);
        Stores.add(x, false, 1);
        Stores.add(x, false, 1, 30, 31, 32);
        x.end();
        Due.is("values(0, 0)", x.values(0, 0), 1);
        Due.is("values(1, 0)", x.values(1, 0), 2);
        Due.is("values(1, 1)", x.values(1, 1), 0);
        Due.is("values(1, 2)", x.values(1, 2), 3);
        Due.is("valueAt(0, 0, 0)", x.valueAt(0, 0, 0), 10);
        Due.is("valueAt(1, 0, 1)", x.valueAt(1, 0, 1), 21);
        Due.is("valueAt(1, 2, 2)", x.valueAt(1, 2, 2), 32);
    }

    private static void valueAnswersHowManyTheGroupHas() {
        Due.sentence("Promise 4", "Answers the number of its values then");
        DremelStore x = new DremelStore();
        for (int rec = 0; rec < 3; rec++) {
            x.begin(false, 0);
            for (int group = 0; group < 4; group++) {
                x.group(false, 0);
                for (int count = 1; count <= 4; count++) {
                    Due.is("value", x.value(-count), count);
                }
            }
            x.end();
        }
    }

    private static void valueWhenNoneIsOpen() {
        Due.sentence("Promise 4", "-1, and changes nothing, if none is open");
        valueIsRefused("value in a new object", x -> { });
        valueIsRefused("value after an empty record", x -> Stores.addEmptyRecords(x, 1));
        valueIsRefused("value after a record with a value", x -> {
            x.begin(false, 0);
            Stores.add(x, true, 1, 3);
            x.end();
        });
        valueIsRefused("value after 12 records", x -> {
            Stores.addEmptyRecords(x, 11);
            Stores.addRecordOfEmptyGroups(x, 1, 1);
        });
    }

    private static void valueWhenTheRecordHasNoGroup() {
        Due.sentence("Promise 4", "-1, and changes nothing, if [..] it has no group");
        valueIsRefused("value in the first record", x -> x.begin(true, 1));
        valueIsRefused("value in the twelfth record", x -> {
            Stores.addEmptyRecords(x, 11);
            x.begin(true, 1);
        });
        valueIsRefused("value after a record with 4 groups", x -> {
            Stores.addRecordOfEmptyGroups(x, 4, 1);
            x.begin(true, 1);
        });
        valueIsRefused("value after a record with a value", x -> {
            x.begin(false, 0);
            Stores.add(x, true, 1, 3);
            x.end();
            x.begin(false, 0);
        });
    }

    private static void valueWhenTheGroupHasFour() {
        Due.sentence("Promise 4", "-1, and changes nothing, if [..] the group has 4 values");
        Consumer<DremelStore> four = x -> {
            x.begin(false, 0);
            Stores.add(x, true, 1, 1, 2, 3, 4);
        };
        valueIsRefused("fifth value of the first group", four);
        valueIsRefused("fifth value of the fourth group", x -> {
            four.accept(x);
            Stores.add(x, true, 2);
            Stores.add(x, true, 3, 1);
            Stores.addFullGroup(x, true, 4, 5);
        });
        DremelStore x = new DremelStore();
        four.accept(x);
        Due.is("fifth value", x.value(50), -1);
        Due.is("group", x.group(true, 2), 2);
        Due.is("value of the next group", x.value(6), 1);
        x.end();
        Due.is("values(0, 0)", x.values(0, 0), 4);
        Due.is("valueAt(0, 0, 3)", x.valueAt(0, 0, 3), 4);
        Due.is("values(0, 1)", x.values(0, 1), 1);
        Due.is("valueAt(0, 1, 0)", x.valueAt(0, 1, 0), 6);
    }

    private static void valueWhenSixtyAreHeldByEndedRecords() {
        Due.sentence("Promise 4", "-1, and changes nothing, if [..] 60 values are held");
        Consumer<DremelStore> sixty = x -> {
            Stores.addValues(x, 60);
            x.begin(false, 0);
            x.group(true, 9);
        };
        valueIsRefused("value 61 in an empty group", sixty);
        DremelStore x = new DremelStore();
        sixty.accept(x);
        Due.is("value 61", x.value(70), -1);
        Due.is("group after it", x.group(true, 8), 2);
        Due.is("value 61 in the next group", x.value(70), -1);
        Due.is("end()", x.end(), 5);
        Due.is("values(4, 0)", x.values(4, 0), 0);
        Due.is("values(4, 1)", x.values(4, 1), 0);
        Due.is("recordsWith(70, 70)", x.recordsWith(70, 70), 0);
    }

    private static void valueWhenSixtyAreHeldWithTheOpenRecord() {
        Due.sentence("Promise 4", "-1, and changes nothing, if [..] 60 values are held");
        Consumer<DremelStore> fiftyEight = x -> {
            Stores.addValues(x, 57);
            x.begin(false, 0);
            Stores.add(x, true, 9, 2);
        };
        valueIsRefused("value 61 in a group of three", x -> {
            fiftyEight.accept(x);
            x.value(3);
            x.value(3);
        });
        DremelStore x = new DremelStore();
        fiftyEight.accept(x);
        Due.is("value 59", x.value(3), 2);
        Due.is("value 60", x.value(4), 3);
        Due.is("value 61", x.value(5), -1);
        x.end();
        Due.is("values(4, 0)", x.values(4, 0), 3);
        Due.is("sumByTag(9)", x.sumByTag(9), 9);
    }

    private static void valueWhenTheGroupHasFourAndSixtyAreHeld() {
        Due.sentence("Promise 4", "-1, and changes nothing, if [..] the group has 4 values, or 60 values are held");
        valueIsRefused("fifth value, and value 61", x -> {
            Stores.addValues(x, 56);
            x.begin(false, 0);
            Stores.addFullGroup(x, true, 2, 7);
        });
    }

    private static void refusedValuesAreNotHeld() {
        Due.sentence("Promise 4", "-1, and changes nothing");
        DremelStore x = new DremelStore();
        for (int rec = 0; rec < 5; rec++) {
            Due.is("value with none open", x.value(1), -1);
            x.begin(false, 0);
            Due.is("value without a group", x.value(1), -1);
            for (int group = 0; group < 3; group++) {
                x.group(false, 0);
                for (int count = 1; count <= 4; count++) {
                    Due.is("value", x.value(1), count);
                }
                Due.is("fifth value", x.value(1), -1);
            }
            x.end();
        }
    }

    private static void valueIsRefused(String call, Consumer<DremelStore> build) {
        for (int value : Stores.INTS) {
            Unchanged.by(call + ", " + value, build, x -> x.value(value));
        }
    }

    private static void endEndsTheOpenRecord() {
        Due.sentence("Promise 5", "Ends the open record.");
        DremelStore x = new DremelStore();
        x.begin(true, 7);
        Stores.add(x, true, 1, 2);
        x.end();
        Due.is("group", x.group(true, 1), -1);
        Due.is("value", x.value(1), -1);
        Due.is("hasNote(0)", x.hasNote(0), 1);
        Due.is("groups(0)", x.groups(0), 1);
        Due.is("values(0, 0)", x.values(0, 0), 1);
        Due.is("begin", x.begin(false, 0), 1);
    }

    private static void endEndsARecordWithoutGroups() {
        Due.sentence("Promise 5", "Ends the open record.");
        DremelStore x = new DremelStore();
        x.begin(false, 0);
        Due.is("end()", x.end(), 1);
        Due.is("groups(0)", x.groups(0), 0);
        Due.is("hasNote(0)", x.hasNote(0), 0);
    }

    private static void endAnswersHowManyAreEnded() {
        Due.sentence("Promise 5", "Answers how many records are ended then");
        DremelStore x = new DremelStore();
        for (int count = 1; count <= 12; count++) {
            x.begin(false, 0);
            Due.is("end()", x.end(), count);
        }
    }

    private static void endWhenNoneIsOpen() {
        Due.sentence("Promise 5", "-1 if none is open");
        ToIntFunction<DremelStore> end = DremelStore::end;
        Unchanged.by("end() of a new object", x -> { }, end);
        Unchanged.by("end() after an end", x -> Stores.addEmptyRecords(x, 1), end);
        Unchanged.by("end() after a record with groups", x -> Stores.addRecordOfEmptyGroups(x, 2, 1), end);
        Unchanged.by("end() after 12 records", x -> Stores.addEmptyRecords(x, 12), end);
        Unchanged.by("end() after a refused begin", x -> {
            Stores.addEmptyRecords(x, 12);
            x.begin(true, 1);
        }, end);
    }
}
