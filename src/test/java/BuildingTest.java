/** Promises 1 to 5: a new object, begin, group, value and end. */
public final class BuildingTest {
    private static final int LEAST = Integer.MIN_VALUE;
    private static final int MOST = Integer.MAX_VALUE;

    public static void main(String[] args) {
        newObjectHoldsNoRecord();
        newObjectRefusesWhatNeedsAnOpenRecord();
        objectsDoNotShareRecords();

        beginNumbersRecordsFromZero();
        beginKeepsTheNoteOrNone();
        beginWhileOpenIsRefusedAndChangesNothing();
        beginAfterTwelveIsRefusedAndChangesNothing();

        groupAnswersTheCountInItsOwnRecord();
        groupKeepsTheTagOrNone();
        groupWithNoneOpenIsRefusedAndChangesNothing();
        fifthGroupIsRefusedAndChangesNothing();
        fortyFirstGroupIsRefusedAndChangesNothing();
        fortyGroupsCanEndInTheMiddleOfARecord();
        refusedGroupsAreNotHeld();

        valueAnswersTheCountInTheLastGroup();
        valueWithNoneOpenIsRefusedAndChangesNothing();
        valueWithoutAGroupIsRefused();
        valueDoesNotReachTheGroupOfTheRecordBefore();
        fifthValueIsRefusedAndChangesNothing();
        sixtyFirstValueIsRefusedAndChangesNothing();
        refusedValuesAreNotHeld();

        endAnswersHowManyAreEnded();
        endWithNoneOpenIsRefusedAndChangesNothing();
        Due.close();
    }

    private static void newObjectHoldsNoRecord() {
        Due.about("promise 1, no record");
        DremelStore x = new DremelStore();
        Due.is("groups(0)", x.groups(0), -1);
        Due.is("values(0, 0)", x.values(0, 0), -1);
        Due.is("valueAt(0, 0, 0)", x.valueAt(0, 0, 0), 0);
        Due.is("hasNote(0)", x.hasNote(0), -1);
        Due.is("label(0, -1)", x.label(0, -1), 0);
        Due.is("label(0, 0)", x.label(0, 0), 0);
        Due.is("sumByTag(0)", x.sumByTag(0), 0);
        Due.is("recordsWith(all)", x.recordsWith(LEAST, MOST), 0);
        Due.is("begin", x.begin(false, 0), 0);
    }

    private static void newObjectRefusesWhatNeedsAnOpenRecord() {
        Due.about("promise 1, none open");
        DremelStore x = new DremelStore();
        Due.is("end()", x.end(), -1);
        Due.is("group", x.group(true, 1), -1);
        Due.is("value", x.value(1), -1);
    }

    private static void objectsDoNotShareRecords() {
        Due.about("promise 1, two objects");
        DremelStore x = new DremelStore();
        x.begin(true, 8);
        x.group(true, 1);
        x.value(5);
        x.end();
        DremelStore y = new DremelStore();
        Due.is("groups(0) of the second", y.groups(0), -1);
        Due.is("sumByTag(1) of the second", y.sumByTag(1), 0);
        Due.is("begin of the second", y.begin(false, 0), 0);
        Due.is("sumByTag(1) of the first", x.sumByTag(1), 5);
    }

    private static void beginNumbersRecordsFromZero() {
        Due.about("promise 2, numbers");
        DremelStore x = new DremelStore();
        for (int rec = 0; rec < 12; rec++) {
            Due.is("begin", x.begin(rec % 2 == 0, rec), rec);
            x.end();
        }
    }

    private static void beginKeepsTheNoteOrNone() {
        Due.about("promise 2, notes");
        int[] notes = {0, -1, 1, LEAST, MOST};
        DremelStore x = new DremelStore();
        for (int note : notes) {
            x.begin(true, note);
            x.end();
            x.begin(false, note);
            x.end();
        }
        for (int i = 0; i < notes.length; i++) {
            Due.is("hasNote with", x.hasNote(2 * i), 1);
            Due.is("label with", x.label(2 * i, -1), notes[i]);
            Due.is("hasNote without", x.hasNote(2 * i + 1), 0);
            Due.is("label without", x.label(2 * i + 1, -1), 0);
        }
    }

    private static void beginWhileOpenIsRefusedAndChangesNothing() {
        Due.about("promise 2, one is open");
        DremelStore x = new DremelStore();
        x.begin(true, 7);
        Due.is("begin at once", x.begin(false, 8), -1);
        x.group(true, 3);
        Due.is("begin after a group", x.begin(true, 9), -1);
        Due.is("value", x.value(4), 1);
        Due.is("begin after a value", x.begin(true, 10), -1);
        Due.is("value", x.value(5), 2);
        Due.is("group", x.group(false, 0), 2);
        Due.is("end()", x.end(), 1);
        Due.is("hasNote(0)", x.hasNote(0), 1);
        Due.is("label(0, -1)", x.label(0, -1), 7);
        Due.is("groups(0)", x.groups(0), 2);
        Due.is("values(0, 0)", x.values(0, 0), 2);
        Due.is("groups(1)", x.groups(1), -1);
        Due.is("begin", x.begin(false, 0), 1);
    }

    private static void beginAfterTwelveIsRefusedAndChangesNothing() {
        Due.about("promise 2, there are 12");
        DremelStore x = new DremelStore();
        for (int rec = 0; rec < 11; rec++) {
            x.begin(true, 100 + rec);
            x.end();
        }
        Due.is("begin of the twelfth", x.begin(true, 111), 11);
        Due.is("begin while the twelfth is open", x.begin(true, 5), -1);
        Due.is("end()", x.end(), 12);
        Due.is("begin of a thirteenth", x.begin(true, 6), -1);
        Due.is("begin of a thirteenth again", x.begin(false, 6), -1);
        Due.is("group", x.group(true, 1), -1);
        Due.is("value", x.value(1), -1);
        Due.is("end()", x.end(), -1);
        for (int rec = 0; rec < 12; rec++) {
            Due.is("label(" + rec + ", -1)", x.label(rec, -1), 100 + rec);
            Due.is("groups(" + rec + ")", x.groups(rec), 0);
        }
        Due.is("groups(12)", x.groups(12), -1);
    }

    private static void groupAnswersTheCountInItsOwnRecord() {
        Due.about("promise 3, counts");
        DremelStore x = new DremelStore();
        for (int rec = 0; rec < 3; rec++) {
            x.begin(false, 0);
            for (int count = 1; count <= 4; count++) {
                Due.is("group", x.group(count % 2 == 0, 1), count);
            }
            x.end();
            Due.is("groups(" + rec + ")", x.groups(rec), 4);
        }
    }

    private static void groupKeepsTheTagOrNone() {
        Due.about("promise 3, tags");
        int[] tags = {0, -1, 1, LEAST, MOST};
        DremelStore x = new DremelStore();
        for (int rec = 0; rec < tags.length; rec++) {
            x.begin(true, 77);
            x.group(true, tags[rec]);
            x.group(false, tags[rec]);
            x.end();
            Due.is("label with", x.label(rec, 0), tags[rec]);
            Due.is("label without", x.label(rec, 1), 0);
        }
    }

    private static void groupWithNoneOpenIsRefusedAndChangesNothing() {
        Due.about("promise 3, none open");
        DremelStore x = new DremelStore();
        x.begin(false, 0);
        x.group(true, 1);
        x.end();
        Due.is("group", x.group(true, 2), -1);
        Due.is("groups(0)", x.groups(0), 1);
        Due.is("end()", x.end(), -1);
        Due.is("begin", x.begin(false, 0), 1);
        Due.is("end()", x.end(), 2);
        Due.is("groups(1)", x.groups(1), 0);
    }

    private static void fifthGroupIsRefusedAndChangesNothing() {
        Due.about("promise 3, it has 4 groups");
        DremelStore x = new DremelStore();
        x.begin(false, 0);
        for (int tag = 1; tag <= 4; tag++) {
            x.group(true, tag);
        }
        x.value(10);
        Due.is("fifth group", x.group(true, 9), -1);
        Due.is("value", x.value(11), 2);
        Due.is("fifth group again", x.group(false, 9), -1);
        x.end();
        Due.is("groups(0)", x.groups(0), 4);
        Due.is("label(0, 3)", x.label(0, 3), 4);
        Due.is("values(0, 3)", x.values(0, 3), 2);
        Due.is("sumByTag(9)", x.sumByTag(9), 0);
        x.begin(false, 0);
        x.end();
        Due.is("groups(1)", x.groups(1), 0);
        Due.is("label(1, 0)", x.label(1, 0), 0);
    }

    private static void fortyFirstGroupIsRefusedAndChangesNothing() {
        Due.about("promise 3, 40 groups are held");
        DremelStore x = new DremelStore();
        fillRecords(x, 10);
        Due.is("begin", x.begin(true, 6), 10);
        Due.is("group 41", x.group(true, 50), -1);
        Due.is("value", x.value(1), -1);
        Due.is("end()", x.end(), 11);
        Due.is("groups(10)", x.groups(10), 0);
        Due.is("label(10, 0)", x.label(10, 0), 0);
        Due.is("label(10, -1)", x.label(10, -1), 6);
        Due.is("begin", x.begin(false, 0), 11);
        Due.is("group 41", x.group(false, 50), -1);
        Due.is("end()", x.end(), 12);
        for (int rec = 0; rec < 10; rec++) {
            Due.is("groups(" + rec + ")", x.groups(rec), 4);
            Due.is("label(" + rec + ", 3)", x.label(rec, 3), 10 * rec + 3);
        }
    }

    private static void fortyGroupsCanEndInTheMiddleOfARecord() {
        Due.about("promise 3, 40 groups in the middle");
        DremelStore x = new DremelStore();
        x.begin(false, 0);
        x.group(true, 1);
        x.group(true, 2);
        x.end();
        fillRecords(x, 9);
        x.begin(false, 0);
        Due.is("group 39", x.group(true, 3), 1);
        Due.is("group 40", x.group(true, 4), 2);
        Due.is("group 41", x.group(true, 5), -1);
        Due.is("value of group 40", x.value(8), 1);
        x.end();
        Due.is("groups(10)", x.groups(10), 2);
        Due.is("label(10, 1)", x.label(10, 1), 4);
        Due.is("valueAt(10, 1, 0)", x.valueAt(10, 1, 0), 8);
    }

    private static void refusedGroupsAreNotHeld() {
        Due.about("promise 3, refused groups are not held");
        DremelStore x = new DremelStore();
        for (int rec = 0; rec < 10; rec++) {
            Due.is("group with none open", x.group(true, 1), -1);
            x.begin(false, 0);
            for (int count = 1; count <= 4; count++) {
                Due.is("group", x.group(true, 1), count);
            }
            Due.is("fifth group", x.group(true, 1), -1);
            x.end();
        }
    }

    private static void valueAnswersTheCountInTheLastGroup() {
        Due.about("promise 4, counts");
        DremelStore x = new DremelStore();
        for (int rec = 0; rec < 2; rec++) {
            x.begin(false, 0);
            for (int group = 0; group < 3; group++) {
                x.group(false, 0);
                for (int count = 1; count <= 4; count++) {
                    Due.is("value", x.value(100 * rec + 10 * group + count), count);
                }
            }
            x.end();
        }
        for (int i = 0; i < 24; i++) {
            int rec = i / 12;
            int group = i / 4 % 3;
            int place = i % 4;
            Due.is("valueAt", x.valueAt(rec, group, place), 100 * rec + 10 * group + place + 1);
        }
    }

    private static void valueWithNoneOpenIsRefusedAndChangesNothing() {
        Due.about("promise 4, none open");
        DremelStore x = new DremelStore();
        x.begin(false, 0);
        x.group(true, 1);
        x.value(3);
        x.end();
        Due.is("value", x.value(4), -1);
        Due.is("values(0, 0)", x.values(0, 0), 1);
        Due.is("sumByTag(1)", x.sumByTag(1), 3);
    }

    private static void valueWithoutAGroupIsRefused() {
        Due.about("promise 4, no group");
        DremelStore x = new DremelStore();
        x.begin(true, 1);
        Due.is("value", x.value(4), -1);
        Due.is("group", x.group(true, 1), 1);
        Due.is("value", x.value(5), 1);
        x.end();
        Due.is("values(0, 0)", x.values(0, 0), 1);
        Due.is("valueAt(0, 0, 0)", x.valueAt(0, 0, 0), 5);
    }

    private static void valueDoesNotReachTheGroupOfTheRecordBefore() {
        Due.about("promise 4, no group, but in the record before");
        DremelStore x = new DremelStore();
        fillRecords(x, 1);
        x.begin(false, 0);
        Due.is("value", x.value(4), -1);
        x.end();
        Due.is("values(0, 3)", x.values(0, 3), 0);
        Due.is("recordsWith(4, 4)", x.recordsWith(4, 4), 0);
    }

    private static void fifthValueIsRefusedAndChangesNothing() {
        Due.about("promise 4, the group has 4 values");
        DremelStore x = new DremelStore();
        x.begin(false, 0);
        x.group(true, 1);
        for (int value = 1; value <= 4; value++) {
            x.value(value);
        }
        Due.is("fifth value", x.value(50), -1);
        Due.is("group", x.group(true, 2), 2);
        x.end();
        Due.is("values(0, 0)", x.values(0, 0), 4);
        Due.is("valueAt(0, 0, 3)", x.valueAt(0, 0, 3), 4);
        Due.is("values(0, 1)", x.values(0, 1), 0);
        Due.is("valueAt(0, 1, 0)", x.valueAt(0, 1, 0), 0);
        Due.is("recordsWith(50, 50)", x.recordsWith(50, 50), 0);
    }

    private static void sixtyFirstValueIsRefusedAndChangesNothing() {
        Due.about("promise 4, 60 values are held");
        DremelStore x = new DremelStore();
        for (int rec = 0; rec < 3; rec++) {
            x.begin(false, 0);
            fillGroups(x, 4);
            x.end();
        }
        x.begin(false, 0);
        fillGroups(x, 2);
        x.group(true, 8);
        x.value(2);
        x.value(2);
        x.value(2);
        Due.is("value 60", x.value(3), 4);
        Due.is("group after 60 values", x.group(true, 9), 4);
        Due.is("value 61", x.value(70), -1);
        Due.is("end()", x.end(), 4);
        Due.is("values(3, 2)", x.values(3, 2), 4);
        Due.is("values(3, 3)", x.values(3, 3), 0);
        Due.is("label(3, 3)", x.label(3, 3), 9);
        Due.is("sumByTag(8)", x.sumByTag(8), 9);
        Due.is("recordsWith(70, 70)", x.recordsWith(70, 70), 0);
        x.begin(false, 0);
        Due.is("group in the next record", x.group(true, 9), 1);
        Due.is("value 61 in the next record", x.value(70), -1);
        Due.is("end()", x.end(), 5);
        Due.is("values(4, 0)", x.values(4, 0), 0);
    }

    private static void refusedValuesAreNotHeld() {
        Due.about("promise 4, refused values are not held");
        DremelStore x = new DremelStore();
        for (int rec = 0; rec < 5; rec++) {
            Due.is("value with none open", x.value(1), -1);
            x.begin(false, 0);
            Due.is("value without a group", x.value(1), -1);
            for (int group = 0; group < 3; group++) {
                x.group(false, 0);
                for (int count = 1; count <= 4; count++) {
                    Due.is("value", x.value(1), count);
                }
                Due.is("fifth value", x.value(1), -1);
            }
            x.end();
        }
    }

    private static void endAnswersHowManyAreEnded() {
        Due.about("promise 5, counts");
        DremelStore x = new DremelStore();
        for (int count = 1; count <= 12; count++) {
            x.begin(false, 0);
            Due.is("groups of the open one", x.groups(count - 1), -1);
            Due.is("end()", x.end(), count);
            Due.is("groups of the ended one", x.groups(count - 1), 0);
        }
    }

    private static void endWithNoneOpenIsRefusedAndChangesNothing() {
        Due.about("promise 5, none open");
        DremelStore x = new DremelStore();
        Due.is("end()", x.end(), -1);
        Due.is("groups(0)", x.groups(0), -1);
        x.begin(false, 0);
        Due.is("end()", x.end(), 1);
        Due.is("end()", x.end(), -1);
        Due.is("groups(1)", x.groups(1), -1);
        Due.is("begin", x.begin(false, 0), 1);
    }

    /** Adds so many records of 4 groups without values; the tag is 10 times the turn plus the group. */
    private static void fillRecords(DremelStore x, int records) {
        for (int turn = 0; turn < records; turn++) {
            x.begin(false, 0);
            for (int group = 0; group < 4; group++) {
                Due.is("group while filling", x.group(true, 10 * turn + group), group + 1);
            }
            x.end();
        }
    }

    /** Adds so many groups of 4 values to the open record. */
    private static void fillGroups(DremelStore x, int groups) {
        for (int group = 0; group < groups; group++) {
            x.group(false, 0);
            for (int count = 1; count <= 4; count++) {
                Due.is("value while filling", x.value(1), count);
            }
        }
    }
}
