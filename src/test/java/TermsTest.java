/** The boundaries that the sections "What it is" and "Terms" name; each test says its words. */
public final class TermsTest {
    public static void main(String[] args) {
        callNumber512IsStillAnswered();
        recordsAreNumberedFromZero();
        thereAreAtMostTwelveRecords();
        aNoteIsAnyIntOrNone();
        aRecordHasAtMostFourGroups();
        aTagIsAnyIntOrNone();
        aGroupHasAtMostFourValues();
        aValueIsAnyInt();
        fortyGroupsAreHeldInEndedRecords();
        fortyGroupsAreHeldWithThoseOfTheOpenRecord();
        sixtyValuesAreHeldInEndedRecords();
        sixtyValuesAreHeldWithThoseOfTheOpenRecord();
        fortyGroupsSixtyValuesAndTwelveRecordsAreHeldAtOnce();
        aRecordIsOpenUntilItIsEnded();
        onlyTheNewestRecordIsOpen();
        questionsAreAboutEndedRecordsOnly();
        aRecordThatIsNotEndedIsRefused();
        everyRecordIsRefusedWhereThereIsNone();
        theThirteenthRecordIsRefusedWhereThereAreTwelve();
        aGroupThatIsNotThereIsRefused();
        aGroupOfTheNextOrLastRecordIsNotThere();
        aValueThatIsNotThereIsRefused();
        aValueOfTheNextOrLastGroupIsNotThere();
        Due.close();
    }

    private static void callNumber512IsStillAnswered() {
        Due.sentence("What it is", "An object is used for at most 512 calls after it has been made");
        DremelStore x = new DremelStore();
        x.begin(true, 3);
        x.group(true, 4);
        x.value(5);
        x.end();
        for (int call = 5; call < 509; call++) {
            x.sumByTag(4);
        }
        Due.is("call 509, begin", x.begin(false, 0), 1);
        Due.is("call 510, group", x.group(true, 4), 1);
        Due.is("call 511, end()", x.end(), 2);
        Due.is("call 512, valueAt(0, 0, 0)", x.valueAt(0, 0, 0), 5);
    }

    private static void recordsAreNumberedFromZero() {
        Due.sentence("Terms", "RECORDS are numbered from 0");
        DremelStore x = new DremelStore();
        Due.is("first begin", x.begin(true, 31), 0);
        x.end();
        Due.is("second begin", x.begin(true, 32), 1);
        x.end();
        Due.is("label(-1, -1)", x.label(-1, -1), 0);
        Due.is("label(0, -1)", x.label(0, -1), 31);
        Due.is("label(1, -1)", x.label(1, -1), 32);
        Due.is("label(2, -1)", x.label(2, -1), 0);
    }

    private static void thereAreAtMostTwelveRecords() {
        Due.sentence("Terms", "there are at most 12");
        DremelStore x = new DremelStore();
        for (int rec = 0; rec < 12; rec++) {
            Due.is("begin", x.begin(true, 50 + rec), rec);
            Due.is("end()", x.end(), rec + 1);
        }
        Due.is("begin of a thirteenth", x.begin(true, 62), -1);
        Due.is("hasNote(11)", x.hasNote(11), 1);
        Due.is("label(11, -1)", x.label(11, -1), 61);
        Due.is("hasNote(12)", x.hasNote(12), -1);
    }

    private static void aNoteIsAnyIntOrNone() {
        Due.sentence("Terms", "A record has a NOTE (an int) or none");
        DremelStore x = new DremelStore();
        for (int note : Stores.INTS) {
            x.begin(true, note);
            x.end();
        }
        x.begin(false, Stores.MOST);
        x.end();
        for (int rec = 0; rec < Stores.INTS.length; rec++) {
            Due.is("hasNote(" + rec + ")", x.hasNote(rec), 1);
            Due.is("label(" + rec + ", -1)", x.label(rec, -1), Stores.INTS[rec]);
        }
        Due.is("hasNote of none", x.hasNote(Stores.INTS.length), 0);
        Due.is("label of none", x.label(Stores.INTS.length, -1), 0);
    }

    private static void aRecordHasAtMostFourGroups() {
        Due.sentence("Terms", "a row of at most 4 GROUPS");
        DremelStore x = new DremelStore();
        for (int groups = 0; groups <= 5; groups++) {
            x.begin(false, 0);
            for (int count = 1; count <= groups; count++) {
                Due.is("group " + count, x.group(true, count), count <= 4 ? count : -1);
            }
            x.end();
            Due.is("groups(" + groups + ")", x.groups(groups), Math.min(groups, 4));
        }
    }

    private static void aTagIsAnyIntOrNone() {
        Due.sentence("Terms", "a group has a TAG (an int) or none");
        DremelStore x = new DremelStore();
        for (int rec = 0; rec < Stores.INTS.length; rec++) {
            int tag = Stores.INTS[rec];
            x.begin(false, 0);
            Stores.add(x, true, tag, 20 + rec);
            Stores.add(x, false, tag, 50);
            x.end();
        }
        for (int rec = 0; rec < Stores.INTS.length; rec++) {
            int tag = Stores.INTS[rec];
            Due.is("label(" + rec + ", 0)", x.label(rec, 0), tag);
            Due.is("label of none", x.label(rec, 1), 0);
            Due.is("sumByTag(" + tag + ")", x.sumByTag(tag), 20 + rec);
        }
    }

    private static void aGroupHasAtMostFourValues() {
        Due.sentence("Terms", "a row of at most 4 VALUES");
        DremelStore x = new DremelStore();
        for (int values = 0; values <= 5; values++) {
            x.begin(false, 0);
            x.group(true, 1);
            for (int count = 1; count <= values; count++) {
                Due.is("value " + count, x.value(count), count <= 4 ? count : -1);
            }
            x.end();
            Due.is("values(" + values + ", 0)", x.values(values, 0), Math.min(values, 4));
        }
    }

    private static void aValueIsAnyInt() {
        Due.sentence("Terms", "VALUES (ints)");
        DremelStore x = new DremelStore();
        for (int value : Stores.INTS) {
            x.begin(false, 0);
            x.group(false, 0);
            Due.is("value(" + value + ")", x.value(value), 1);
            x.end();
        }
        for (int rec = 0; rec < Stores.INTS.length; rec++) {
            Due.is("valueAt(" + rec + ", 0, 0)", x.valueAt(rec, 0, 0), Stores.INTS[rec]);
        }
    }

    private static void fortyGroupsAreHeldInEndedRecords() {
        Due.sentence("Terms", "At most 40 groups [..] are held in all records together.");
        DremelStore x = new DremelStore();
        for (int rec = 0; rec < 10; rec++) {
            Stores.addRecordOfEmptyGroups(x, 4, 1);
        }
        x.begin(false, 0);
        Due.is("group 41", x.group(true, 1), -1);
        x.end();
        Due.is("groups(9)", x.groups(9), 4);
        Due.is("groups(10)", x.groups(10), 0);
    }

    /** Records of 4, 4, 4, 4, 4, 3, 3, 3, 3, 3, 3 make 38; the open one, the twelfth, has the last two. */
    private static void fortyGroupsAreHeldWithThoseOfTheOpenRecord() {
        Due.sentence("Terms", "At most 40 groups [..] are held in all records together.");
        DremelStore x = new DremelStore();
        for (int rec = 0; rec < 11; rec++) {
            Stores.addRecordOfEmptyGroups(x, rec < 5 ? 4 : 3, 1);
        }
        x.begin(false, 0);
        Due.is("group 39", x.group(true, 1), 1);
        Due.is("group 40", x.group(true, 1), 2);
        Due.is("group 41", x.group(true, 1), -1);
        x.end();
        Due.is("groups(11)", x.groups(11), 2);
    }

    private static void sixtyValuesAreHeldInEndedRecords() {
        Due.sentence("Terms", "At most [..] 60 values are held in all records together.");
        DremelStore x = new DremelStore();
        Stores.addValues(x, 60);
        x.begin(false, 0);
        x.group(true, 1);
        Due.is("value 61", x.value(1), -1);
        x.end();
        Due.is("values(4, 0)", x.values(4, 0), 0);
        Due.is("sumByTag(1)", x.sumByTag(1), 60);
    }

    private static void sixtyValuesAreHeldWithThoseOfTheOpenRecord() {
        Due.sentence("Terms", "At most [..] 60 values are held in all records together.");
        DremelStore x = new DremelStore();
        Stores.addValues(x, 53);
        x.begin(false, 0);
        Stores.add(x, true, 1, 1, 1, 1, 1);
        x.group(true, 1);
        Due.is("value 58", x.value(1), 1);
        Due.is("value 59", x.value(1), 2);
        Due.is("value 60", x.value(1), 3);
        Due.is("value 61", x.value(1), -1);
        x.end();
        Due.is("values of the last group", x.values(4, 1), 3);
        Due.is("sumByTag(1)", x.sumByTag(1), 60);
    }

    /** All three limits are met by the same object: records of 4 or 3 groups, groups of 2 or 1 values. */
    private static void fortyGroupsSixtyValuesAndTwelveRecordsAreHeldAtOnce() {
        Due.sentence("Terms", "At most 40 groups and 60 values are held in all records together.");
        DremelStore x = new DremelStore();
        int held = 0;
        for (int rec = 0; rec < 12; rec++) {
            x.begin(true, rec);
            for (int group = 0; group < (rec < 4 ? 4 : 3); group++) {
                Due.is("group", x.group(true, rec), group + 1);
                for (int count = 1; count <= (held % 2 == 0 ? 2 : 1); count++) {
                    Due.is("value", x.value(10 * rec + group), count);
                }
                held++;
            }
            Due.is("end()", x.end(), rec + 1);
        }
        Due.is("groups made", held, 40);
        Due.is("begin", x.begin(true, 0), -1);
        int values = 0;
        for (int rec = 0; rec < 12; rec++) {
            for (int group = 0; group < x.groups(rec); group++) {
                values += x.values(rec, group);
                Due.is("last value of a group", x.valueAt(rec, group, x.values(rec, group) - 1), 10 * rec + group);
            }
        }
        Due.is("values there", values, 60);
    }

    private static void aRecordIsOpenUntilItIsEnded() {
        Due.sentence("Terms", "A record that has been begun is OPEN until it is ended");
        DremelStore x = new DremelStore();
        x.begin(false, 0);
        x.begin(false, 0);
        x.value(1);
        Stores.addFullGroup(x, true, 1, 1);
        x.value(1);
        x.groups(0);
        x.sumByTag(1);
        for (int count = 2; count <= 4; count++) {
            Due.is("group of the record that is still open", x.group(true, 1), count);
        }
        x.group(true, 1);
        Due.is("value in the record that is still open", x.value(1), 1);
        Due.is("end()", x.end(), 1);
        Due.is("group when it is ended", x.group(true, 1), -1);
        Due.is("value when it is ended", x.value(1), -1);
        Due.is("end() when it is ended", x.end(), -1);
    }

    private static void onlyTheNewestRecordIsOpen() {
        Due.sentence("Terms", "only the newest one can be open");
        DremelStore x = new DremelStore();
        x.begin(false, 0);
        Due.is("begin beside the open one", x.begin(false, 0), -1);
        Stores.add(x, true, 1, 10);
        x.end();
        x.begin(false, 0);
        Due.is("group of the newest", x.group(true, 2), 1);
        Due.is("value of the newest", x.value(20), 1);
        Due.is("end() of the newest", x.end(), 2);
        Due.is("end() with none open", x.end(), -1);
        Due.is("groups(0)", x.groups(0), 1);
        Due.is("values(0, 0)", x.values(0, 0), 1);
        Due.is("groups(1)", x.groups(1), 1);
        Due.is("valueAt(1, 0, 0)", x.valueAt(1, 0, 0), 20);
    }

    private static void questionsAreAboutEndedRecordsOnly() {
        Due.sentence("Terms", "Questions are about ended records only.");
        DremelStore x = Stores.sample();
        Due.is("groups(3)", x.groups(3), -1);
        Due.is("values(3, 0)", x.values(3, 0), -1);
        Due.is("valueAt(3, 0, 0)", x.valueAt(3, 0, 0), 0);
        Due.is("hasNote(3)", x.hasNote(3), -1);
        Due.is("label(3, -1)", x.label(3, -1), 0);
        Due.is("label(3, 0)", x.label(3, 0), 0);
        Due.is("sumByTag(5)", x.sumByTag(5), 6);
        Due.is("recordsWith(100, 100)", x.recordsWith(100, 100), 0);
        x.end();
        Due.is("groups(3) when ended", x.groups(3), 1);
        Due.is("values(3, 0) when ended", x.values(3, 0), 1);
        Due.is("valueAt(3, 0, 0) when ended", x.valueAt(3, 0, 0), 100);
        Due.is("hasNote(3) when ended", x.hasNote(3), 1);
        Due.is("label(3, -1) when ended", x.label(3, -1), 4);
        Due.is("label(3, 0) when ended", x.label(3, 0), 5);
        Due.is("sumByTag(5) when ended", x.sumByTag(5), 106);
        Due.is("recordsWith(100, 100) when ended", x.recordsWith(100, 100), 1);
    }

    private static void aRecordThatIsNotEndedIsRefused() {
        Due.sentence("Terms", "A number of a record that is not an ended one [..] is refused");
        DremelStore x = Stores.sample();
        recordIsRefused(x, -1);
        recordIsRefused(x, 3);
        recordIsRefused(x, 4);
        for (int rec : Stores.NEVER_THERE) {
            recordIsRefused(x, rec);
        }
    }

    private static void everyRecordIsRefusedWhereThereIsNone() {
        Due.sentence("Terms", "A number of a record that is not an ended one [..] is refused");
        DremelStore x = new DremelStore();
        for (int rec = -2; rec <= 13; rec++) {
            recordIsRefused(x, rec);
        }
        x.begin(true, 7);
        Stores.add(x, true, 7, 7);
        recordIsRefused(x, -1);
        recordIsRefused(x, 0);
        recordIsRefused(x, 1);
    }

    private static void theThirteenthRecordIsRefusedWhereThereAreTwelve() {
        Due.sentence("Terms", "A number of a record that is not an ended one [..] is refused");
        DremelStore x = new DremelStore();
        for (int rec = 0; rec < 12; rec++) {
            x.begin(true, 7);
            Stores.add(x, true, 7, 7);
            x.end();
        }
        Due.is("label(11, -1)", x.label(11, -1), 7);
        recordIsRefused(x, -1);
        for (int rec : Stores.NEVER_THERE) {
            recordIsRefused(x, rec);
        }
    }

    private static void recordIsRefused(DremelStore x, int rec) {
        Due.is("groups(" + rec + ")", x.groups(rec), -1);
        Due.is("values(" + rec + ", 0)", x.values(rec, 0), -1);
        Due.is("valueAt(" + rec + ", 0, 0)", x.valueAt(rec, 0, 0), 0);
        Due.is("hasNote(" + rec + ")", x.hasNote(rec), -1);
        Due.is("label(" + rec + ", -1)", x.label(rec, -1), 0);
        Due.is("label(" + rec + ", 0)", x.label(rec, 0), 0);
    }

    private static void aGroupThatIsNotThereIsRefused() {
        Due.sentence("Terms", "or of a group [..] that is not there, is refused");
        DremelStore x = Stores.sample();
        groupIsRefused(x, 0, 3);
        groupIsRefused(x, 0, 4);
        groupIsRefused(x, 1, 0);
        groupIsRefused(x, 1, 1);
        groupIsRefused(x, 2, 4);
        groupIsRefused(x, 2, 5);
        for (int group : Stores.NEVER_THERE) {
            groupIsRefused(x, 0, group);
            groupIsRefused(x, 2, group);
        }
        // In label the group -1 is the note, but it is no group to the other two.
        Due.is("values(0, -1)", x.values(0, -1), -1);
        Due.is("valueAt(0, -1, 0)", x.valueAt(0, -1, 0), 0);
    }

    /** Three full records, each value and tag other than 0: a number that runs over meets one of them. */
    private static DremelStore threeFullRecords() {
        DremelStore x = new DremelStore();
        for (int rec = 0; rec < 3; rec++) {
            x.begin(true, 1);
            for (int group = 0; group < 4; group++) {
                Stores.addFullGroup(x, true, 1, 1);
            }
            x.end();
        }
        return x;
    }

    private static void aGroupOfTheNextOrLastRecordIsNotThere() {
        Due.sentence("Terms", "or of a group [..] that is not there, is refused");
        DremelStore x = threeFullRecords();
        for (int rec = 0; rec < 3; rec++) {
            for (int group = 4; group < 13; group++) {
                groupIsRefused(x, rec, group);
                groupIsRefused(x, rec, 2 - group);
            }
            Due.is("values(" + rec + ", -1)", x.values(rec, -1), -1);
            Due.is("valueAt(" + rec + ", -1, 0)", x.valueAt(rec, -1, 0), 0);
        }
    }

    private static void groupIsRefused(DremelStore x, int rec, int group) {
        Due.is("values(" + rec + ", " + group + ")", x.values(rec, group), -1);
        Due.is("valueAt(" + rec + ", " + group + ", 0)", x.valueAt(rec, group, 0), 0);
        Due.is("label(" + rec + ", " + group + ")", x.label(rec, group), 0);
    }

    private static void aValueThatIsNotThereIsRefused() {
        Due.sentence("Terms", "or value that is not there, is refused");
        DremelStore x = Stores.sample();
        valueIsRefused(x, 0, 0, -1);
        valueIsRefused(x, 0, 0, 2);
        valueIsRefused(x, 0, 1, 0);
        valueIsRefused(x, 0, 2, -1);
        valueIsRefused(x, 0, 2, 1);
        valueIsRefused(x, 2, 0, -1);
        valueIsRefused(x, 2, 0, 4);
        valueIsRefused(x, 2, 3, 0);
        for (int place : Stores.NEVER_THERE) {
            valueIsRefused(x, 0, 0, place);
            valueIsRefused(x, 2, 0, place);
        }
    }

    private static void aValueOfTheNextOrLastGroupIsNotThere() {
        Due.sentence("Terms", "or value that is not there, is refused");
        DremelStore x = threeFullRecords();
        for (int group = 0; group < 4; group++) {
            Due.is("valueAt(1, " + group + ", 3)", x.valueAt(1, group, 3), 1);
            for (int place = 4; place < 18; place++) {
                valueIsRefused(x, 1, group, place);
                valueIsRefused(x, 1, group, 3 - place);
            }
        }
    }

    private static void valueIsRefused(DremelStore x, int rec, int group, int place) {
        Due.is("valueAt(" + rec + ", " + group + ", " + place + ")", x.valueAt(rec, group, place), 0);
    }
}
