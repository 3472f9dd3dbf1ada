import java.util.Arrays;

/** Promises 6 to 12: the questions about ended records. Each test says the words of the document it holds. */
public final class AskingTest {
    private static final int LEAST = Stores.LEAST;
    private static final int MOST = Stores.MOST;

    public static void main(String[] args) {
        groupsCountsNoneToFour();
        groupsRefused();

        valuesCountsNoneToFour();
        valuesCountsGroupsFromZeroInEachRecord();
        valuesRefusedForTheRecord();
        valuesRefusedForTheGroup();

        valueAtAnswersTheFirstToTheFourth();
        valueAtRefusedForTheRecord();
        valueAtRefusedForTheGroup();
        valueAtRefusedForThePlace();

        hasNoteIsOneForANote();
        hasNoteIsZeroForNone();
        hasNoteRefused();

        labelAnswersTheTag();
        labelAnswersTheNoteForMinusOne();
        labelIsZeroForNoTag();
        labelIsZeroForNoNote();
        labelIsZeroForARefusedRecord();
        labelIsZeroForARefusedGroup();

        sumByTagGoesOverAllEndedRecords();
        sumByTagLeavesOutTheOpenRecord();
        sumByTagAddsAllValuesOfAllSuchGroups();
        sumByTagIsZeroWhereThereIsNothing();
        sumByTagWrapsUpwards();
        sumByTagWrapsDownwards();
        sumByTagPassesOverGroupsWithoutATag();
        sumByTagTellsTheOuterTagsApart();

        recordsWithCountsNoneToTwelve();
        recordsWithLeavesOutTheOpenRecord();
        recordsWithCountsARecordOnce();
        recordsWithTakesBothBoundsIn();
        recordsWithIsZeroForAnEmptyRange();
        recordsWithTakesTheOuterInts();
        recordsWithLooksInEveryGroupAtEveryPlace();

        questionsChangeNothing();
        Due.close();
    }

    private static void groupsCountsNoneToFour() {
        Due.sentence("Promise 6", "How many groups the record has.");
        DremelStore x = new DremelStore();
        for (int rec = 0; rec < 12; rec++) {
            Stores.addRecordOfEmptyGroups(x, rec % 5, 1);
        }
        for (int rec = 0; rec < 12; rec++) {
            Due.is("groups(" + rec + ")", x.groups(rec), rec % 5);
        }
    }

    private static void groupsRefused() {
        Due.sentence("Promise 6 with Terms", "A number of a record that is not an ended one [..]: the call answers -1");
        DremelStore x = Stores.sample();
        Due.is("groups(-1)", x.groups(-1), -1);
        Due.is("groups(2)", x.groups(2), 4);
        Due.is("groups of the open one", x.groups(3), -1);
        Due.is("groups(4)", x.groups(4), -1);
        for (int rec : Stores.NEVER_THERE) {
            Due.is("groups(" + rec + ")", x.groups(rec), -1);
        }
        x.end();
        Due.is("groups(3) when ended", x.groups(3), 1);
        Due.is("groups(4) when 3 is ended", x.groups(4), -1);
    }

    private static void valuesCountsNoneToFour() {
        Due.sentence("Promise 7", "How many values the group of the record has");
        DremelStore x = new DremelStore();
        int[] row = {1, 2, 3, 4};
        for (int count = 0; count <= 4; count++) {
            x.begin(false, 0);
            Stores.add(x, true, 1, Arrays.copyOf(row, count));
            Stores.add(x, false, 1, Arrays.copyOf(row, 4 - count));
            x.end();
        }
        for (int count = 0; count <= 4; count++) {
            Due.is("values(" + count + ", 0)", x.values(count, 0), count);
            Due.is("values(" + count + ", 1)", x.values(count, 1), 4 - count);
        }
    }

    private static void valuesCountsGroupsFromZeroInEachRecord() {
        Due.sentence("Promise 7", "groups are counted from 0 in each record");
        DremelStore x = new DremelStore();
        x.begin(false, 0);
        Stores.add(x, true, 1, 1);
        Stores.add(x, true, 1, 1, 2);
        x.end();
        x.begin(false, 0);
        Stores.add(x, true, 1, 1, 2, 3);
        Stores.add(x, true, 1, 1, 2, 3, 4);
        x.end();
        Due.is("values(0, -1)", x.values(0, -1), -1);
        Due.is("values(0, 0)", x.values(0, 0), 1);
        Due.is("values(0, 1)", x.values(0, 1), 2);
        Due.is("values(0, 2)", x.values(0, 2), -1);
        Due.is("values(1, -1)", x.values(1, -1), -1);
        Due.is("values(1, 0)", x.values(1, 0), 3);
        Due.is("values(1, 1)", x.values(1, 1), 4);
        Due.is("values(1, 2)", x.values(1, 2), -1);
    }

    private static void valuesRefusedForTheRecord() {
        Due.sentence("Promise 7 with Terms", "A number of a record that is not an ended one [..]: the call answers -1");
        DremelStore x = Stores.sample();
        Due.is("values(-1, 0)", x.values(-1, 0), -1);
        Due.is("values(-1, 4)", x.values(-1, 4), -1);
        Due.is("values of the open one", x.values(3, 0), -1);
        Due.is("values(4, 0)", x.values(4, 0), -1);
        Due.is("values(4, -4)", x.values(4, -4), -1);
        for (int rec : Stores.NEVER_THERE) {
            Due.is("values(" + rec + ", 0)", x.values(rec, 0), -1);
        }
        x.end();
        Due.is("values(3, 0) when ended", x.values(3, 0), 1);
    }

    private static void valuesRefusedForTheGroup() {
        Due.sentence("Promise 7 with Terms", "or of a group [..] that is not there [..]: the call answers -1");
        DremelStore x = Stores.sample();
        Due.is("values(0, -1)", x.values(0, -1), -1);
        Due.is("values(0, 3)", x.values(0, 3), -1);
        Due.is("values(1, -1)", x.values(1, -1), -1);
        Due.is("values(1, 0)", x.values(1, 0), -1);
        Due.is("values(2, -1)", x.values(2, -1), -1);
        Due.is("values(2, 4)", x.values(2, 4), -1);
        for (int group : Stores.NEVER_THERE) {
            Due.is("values(0, " + group + ")", x.values(0, group), -1);
            Due.is("values(2, " + group + ")", x.values(2, group), -1);
        }
    }

    private static void valueAtAnswersTheFirstToTheFourth() {
        Due.sentence("Promise 8", "The value of the group of the record at the place (from 0)");
        DremelStore x = new DremelStore();
        for (int rec = 0; rec < 3; rec++) {
            x.begin(false, 0);
            for (int group = 0; group < 4; group++) {
                int first = 100 * rec + 10 * group;
                Stores.add(x, false, 0, first + 1, first + 2, first + 3, first + 4);
            }
            x.end();
        }
        for (int i = 0; i < 48; i++) {
            int rec = i / 16;
            int group = i / 4 % 4;
            int place = i % 4;
            Due.is("valueAt(" + rec + ", " + group + ", " + place + ")",
                    x.valueAt(rec, group, place), 100 * rec + 10 * group + place + 1);
        }
    }

    private static void valueAtRefusedForTheRecord() {
        Due.sentence("Promise 8", "0 if refused");
        DremelStore x = Stores.sample();
        Due.is("valueAt(-1, 0, 0)", x.valueAt(-1, 0, 0), 0);
        Due.is("valueAt(-1, 4, 0)", x.valueAt(-1, 4, 0), 0);
        Due.is("valueAt of the open one", x.valueAt(3, 0, 0), 0);
        Due.is("valueAt(4, 0, 0)", x.valueAt(4, 0, 0), 0);
        for (int rec : Stores.NEVER_THERE) {
            Due.is("valueAt(" + rec + ", 0, 0)", x.valueAt(rec, 0, 0), 0);
        }
        x.end();
        Due.is("valueAt(3, 0, 0) when ended", x.valueAt(3, 0, 0), 100);
    }

    private static void valueAtRefusedForTheGroup() {
        Due.sentence("Promise 8", "0 if refused");
        DremelStore x = Stores.sample();
        Due.is("valueAt(0, -1, 0)", x.valueAt(0, -1, 0), 0);
        Due.is("valueAt(0, 3, 0)", x.valueAt(0, 3, 0), 0);
        Due.is("valueAt(0, 8, 1)", x.valueAt(0, 8, 1), 0);
        Due.is("valueAt(1, -4, 0)", x.valueAt(1, -4, 0), 0);
        Due.is("valueAt(1, 0, 0)", x.valueAt(1, 0, 0), 0);
        Due.is("valueAt(2, 4, 0)", x.valueAt(2, 4, 0), 0);
        for (int group : Stores.NEVER_THERE) {
            Due.is("valueAt(0, " + group + ", 0)", x.valueAt(0, group, 0), 0);
        }
    }

    private static void valueAtRefusedForThePlace() {
        Due.sentence("Promise 8", "0 if refused");
        DremelStore x = Stores.sample();
        Due.is("valueAt(0, 0, -1)", x.valueAt(0, 0, -1), 0);
        Due.is("valueAt(0, 0, 2)", x.valueAt(0, 0, 2), 0);
        Due.is("valueAt(0, 0, 8)", x.valueAt(0, 0, 8), 0);
        Due.is("valueAt of an empty group", x.valueAt(0, 1, 0), 0);
        Due.is("valueAt of an empty group, at -4", x.valueAt(0, 1, -4), 0);
        Due.is("valueAt(2, 0, 4)", x.valueAt(2, 0, 4), 0);
        Due.is("valueAt(2, 1, -1)", x.valueAt(2, 1, -1), 0);
        for (int place : Stores.NEVER_THERE) {
            Due.is("valueAt(0, 0, " + place + ")", x.valueAt(0, 0, place), 0);
            Due.is("valueAt(2, 0, " + place + ")", x.valueAt(2, 0, place), 0);
        }
    }

    private static void hasNoteIsOneForANote() {
        Due.sentence("Promise 9", "1 if the record has a note");
        DremelStore x = new DremelStore();
        for (int note : Stores.INTS) {
            x.begin(true, note);
            x.end();
        }
        for (int rec = 0; rec < Stores.INTS.length; rec++) {
            Due.is("hasNote of note " + Stores.INTS[rec], x.hasNote(rec), 1);
        }
    }

    private static void hasNoteIsZeroForNone() {
        Due.sentence("Promise 9", "0 if not");
        DremelStore x = new DremelStore();
        for (int note : Stores.INTS) {
            x.begin(false, note);
            Stores.add(x, true, 7, 7);
            x.end();
        }
        for (int rec = 0; rec < Stores.INTS.length; rec++) {
            Due.is("hasNote without one, but " + Stores.INTS[rec], x.hasNote(rec), 0);
        }
    }

    private static void hasNoteRefused() {
        Due.sentence("Promise 9", "1 if the record has a note, 0 if not; -1.");
        DremelStore x = Stores.sample();
        Due.is("hasNote(-1)", x.hasNote(-1), -1);
        Due.is("hasNote of the open one", x.hasNote(3), -1);
        Due.is("hasNote(4)", x.hasNote(4), -1);
        for (int rec : Stores.NEVER_THERE) {
            Due.is("hasNote(" + rec + ")", x.hasNote(rec), -1);
        }
        x.end();
        Due.is("hasNote(3) when ended", x.hasNote(3), 1);
    }

    private static void labelAnswersTheTag() {
        Due.sentence("Promise 10", "The tag of the group of the record");
        DremelStore x = new DremelStore();
        for (int rec = 0; rec < Stores.INTS.length; rec++) {
            x.begin(true, 77);
            x.group(true, 10 + rec);
            x.group(false, 3);
            x.group(true, 20 + rec);
            x.group(true, Stores.INTS[rec]);
            x.end();
        }
        for (int rec = 0; rec < Stores.INTS.length; rec++) {
            Due.is("label(" + rec + ", 0)", x.label(rec, 0), 10 + rec);
            Due.is("label(" + rec + ", 2)", x.label(rec, 2), 20 + rec);
            Due.is("label(" + rec + ", 3)", x.label(rec, 3), Stores.INTS[rec]);
        }
    }

    private static void labelAnswersTheNoteForMinusOne() {
        Due.sentence("Promise 10", "or the note of the record if group is -1");
        DremelStore x = new DremelStore();
        for (int rec = 0; rec < Stores.INTS.length; rec++) {
            x.begin(true, Stores.INTS[rec]);
            for (int group = 0; group < rec % 5; group++) {
                x.group(true, 77);
            }
            x.end();
        }
        for (int rec = 0; rec < Stores.INTS.length; rec++) {
            Due.is("label(" + rec + ", -1)", x.label(rec, -1), Stores.INTS[rec]);
        }
    }

    private static void labelIsZeroForNoTag() {
        Due.sentence("Promise 10", "0 if it has none");
        DremelStore x = Stores.sample();
        Due.is("label of an empty group without a tag", x.label(0, 1), 0);
        Due.is("label of a group without a tag", x.label(2, 2), 0);
        Due.is("label of a group with tag 0", x.label(2, 0), 0);
        Due.is("label of a group with tag -1", x.label(2, 1), -1);
    }

    private static void labelIsZeroForNoNote() {
        Due.sentence("Promise 10", "0 if it has none");
        DremelStore x = new DremelStore();
        x.begin(false, 8);
        x.group(true, 9);
        x.end();
        x.begin(false, -1);
        x.end();
        Due.is("label(0, -1)", x.label(0, -1), 0);
        Due.is("label(0, 0)", x.label(0, 0), 9);
        Due.is("label(1, -1)", x.label(1, -1), 0);
    }

    private static void labelIsZeroForARefusedRecord() {
        Due.sentence("Promise 10", "0 [..] if refused");
        DremelStore x = Stores.sample();
        Due.is("label of the open one's note", x.label(3, -1), 0);
        Due.is("label of the open one's group", x.label(3, 0), 0);
        Due.is("label(4, -1)", x.label(4, -1), 0);
        Due.is("label(4, 0)", x.label(4, 0), 0);
        Due.is("label(-1, -1)", x.label(-1, -1), 0);
        Due.is("label(-1, 0)", x.label(-1, 0), 0);
        Due.is("label(-1, 4)", x.label(-1, 4), 0);
        for (int rec : Stores.NEVER_THERE) {
            Due.is("label(" + rec + ", -1)", x.label(rec, -1), 0);
            Due.is("label(" + rec + ", 0)", x.label(rec, 0), 0);
        }
        x.end();
        Due.is("label(3, -1) when ended", x.label(3, -1), 4);
        Due.is("label(3, 0) when ended", x.label(3, 0), 5);
    }

    private static void labelIsZeroForARefusedGroup() {
        Due.sentence("Promise 10", "0 [..] if refused");
        DremelStore x = Stores.sample();
        Due.is("label(0, -2)", x.label(0, -2), 0);
        Due.is("label(0, 3)", x.label(0, 3), 0);
        Due.is("label(0, 9)", x.label(0, 9), 0);
        Due.is("label(1, -4)", x.label(1, -4), 0);
        Due.is("label(1, 0)", x.label(1, 0), 0);
        Due.is("label(2, -8)", x.label(2, -8), 0);
        Due.is("label(2, 4)", x.label(2, 4), 0);
        for (int group : Stores.NEVER_THERE) {
            Due.is("label(0, " + group + ")", x.label(0, group), 0);
            Due.is("label(2, " + group + ")", x.label(2, group), 0);
        }
    }

    private static void sumByTagGoesOverAllEndedRecords() {
        Due.sentence("Promise 11", "Over all ended records");
        DremelStore x = new DremelStore();
        int sum = 0;
        for (int rec = 0; rec < 12; rec++) {
            x.begin(false, 0);
            Stores.add(x, true, 6, 1 << rec);
            x.end();
            sum += 1 << rec;
            Due.is("sumByTag(6) over " + (rec + 1) + " records", x.sumByTag(6), sum);
        }
    }

    private static void sumByTagLeavesOutTheOpenRecord() {
        Due.sentence("Promise 11", "Over all ended records");
        DremelStore x = new DremelStore();
        x.begin(false, 0);
        Stores.add(x, true, 1, 10);
        Due.is("sumByTag(1) while the first is open", x.sumByTag(1), 0);
        x.end();
        Due.is("sumByTag(1) when it is ended", x.sumByTag(1), 10);
        Stores.addEmptyRecords(x, 10);
        x.begin(false, 0);
        Stores.add(x, true, 1, 20);
        Due.is("sumByTag(1) while the twelfth is open", x.sumByTag(1), 10);
        x.end();
        Due.is("sumByTag(1) when it is ended", x.sumByTag(1), 30);
    }

    private static void sumByTagAddsAllValuesOfAllSuchGroups() {
        Due.sentence("Promise 11", "the sum [..] of all values of groups whose tag is tag");
        DremelStore x = new DremelStore();
        x.begin(true, 5);
        Stores.add(x, true, 5, 1, 2, 4, 8);
        Stores.add(x, true, 6, 1000, 1000, 1000, 1000);
        Stores.add(x, true, 5, 16, 32, 64, 128);
        Stores.add(x, true, 5, 256);
        x.end();
        Due.is("sumByTag(5)", x.sumByTag(5), 511);
        Due.is("sumByTag(6)", x.sumByTag(6), 4000);
        DremelStore full = new DremelStore();
        Stores.addValues(full, 60);
        Due.is("sumByTag(1) of 60 values", full.sumByTag(1), 60);
    }

    private static void sumByTagIsZeroWhereThereIsNothing() {
        Due.sentence("Promise 11", "the sum [..] of all values of groups whose tag is tag");
        Due.is("sumByTag(0) of a new object", new DremelStore().sumByTag(0), 0);
        DremelStore x = Stores.sample();
        Due.is("sumByTag of an empty group", x.sumByTag(2), 0);
        Due.is("sumByTag of no group", x.sumByTag(77), 0);
        Due.is("sumByTag of a note", x.sumByTag(9), 0);
        Due.is("sumByTag of the open one's note", x.sumByTag(4), 0);
    }

    private static void sumByTagWrapsUpwards() {
        Due.sentence("Promise 11", "the sum (wrapping)");
        DremelStore x = new DremelStore();
        x.begin(false, 0);
        Stores.add(x, true, 1, MOST);
        x.end();
        Due.is("sumByTag(1) of MOST", x.sumByTag(1), MOST);
        x.begin(false, 0);
        Stores.add(x, true, 1, 1);
        x.end();
        Due.is("sumByTag(1) of MOST and 1", x.sumByTag(1), LEAST);
        x.begin(false, 0);
        Stores.add(x, true, 2, MOST, MOST);
        Stores.add(x, true, 2, 5);
        x.end();
        Due.is("sumByTag(2) of MOST, MOST and 5", x.sumByTag(2), 3);
        Due.is("sumByTag(3) of 60 times MOST", fullOf(MOST).sumByTag(3), -60);
    }

    private static void sumByTagWrapsDownwards() {
        Due.sentence("Promise 11", "the sum (wrapping)");
        DremelStore x = new DremelStore();
        x.begin(false, 0);
        Stores.add(x, true, 1, LEAST);
        Stores.add(x, true, 2, LEAST, LEAST, -7);
        x.end();
        Due.is("sumByTag(1) of LEAST", x.sumByTag(1), LEAST);
        x.begin(false, 0);
        Stores.add(x, true, 1, -1);
        x.end();
        Due.is("sumByTag(1) of LEAST and -1", x.sumByTag(1), MOST);
        Due.is("sumByTag(2) of LEAST, LEAST and -7", x.sumByTag(2), -7);
        Due.is("sumByTag(3) of 60 times LEAST + 1", fullOf(LEAST + 1).sumByTag(3), 60);
    }

    /** An object of 60 values, all of them value, in groups with tag 3. */
    private static DremelStore fullOf(int value) {
        DremelStore x = new DremelStore();
        for (int rec = 0; rec < 5; rec++) {
            x.begin(false, 0);
            for (int group = 0; group < 3; group++) {
                Stores.addFullGroup(x, true, 3, value);
            }
            x.end();
        }
        return x;
    }

    private static void sumByTagPassesOverGroupsWithoutATag() {
        Due.sentence("Promise 11", "groups whose tag is tag");
        DremelStore x = new DremelStore();
        x.begin(true, 3);
        Stores.add(x, false, 0, 10);
        Stores.add(x, false, 3, 20);
        Stores.add(x, true, 3, 40);
        x.end();
        Due.is("sumByTag(0)", x.sumByTag(0), 0);
        Due.is("sumByTag(3)", x.sumByTag(3), 40);
        Due.is("sumByTag(-1)", x.sumByTag(-1), 0);
    }

    private static void sumByTagTellsTheOuterTagsApart() {
        Due.sentence("Promise 11", "groups whose tag is tag");
        DremelStore x = new DremelStore();
        for (int rec = 0; rec < Stores.INTS.length; rec++) {
            x.begin(false, 0);
            Stores.add(x, true, Stores.INTS[rec], 1 << rec);
            x.end();
        }
        for (int rec = 0; rec < Stores.INTS.length; rec++) {
            Due.is("sumByTag(" + Stores.INTS[rec] + ")", x.sumByTag(Stores.INTS[rec]), 1 << rec);
        }
    }

    private static void recordsWithCountsNoneToTwelve() {
        Due.sentence("Promise 12", "The number of ended records");
        DremelStore x = new DremelStore();
        Due.is("recordsWith of a new object", x.recordsWith(LEAST, MOST), 0);
        for (int count = 1; count <= 12; count++) {
            x.begin(false, 0);
            Stores.add(x, false, 0, 5);
            x.end();
            Due.is("recordsWith(5, 5) of " + count, x.recordsWith(5, 5), count);
        }
    }

    private static void recordsWithLeavesOutTheOpenRecord() {
        Due.sentence("Promise 12", "The number of ended records");
        DremelStore x = Stores.sample();
        Due.is("recordsWith(100, 100) while it is open", x.recordsWith(100, 100), 0);
        Due.is("recordsWith(all) while it is open", x.recordsWith(LEAST, MOST), 2);
        x.end();
        Due.is("recordsWith(100, 100) when it is ended", x.recordsWith(100, 100), 1);
        Due.is("recordsWith(all) when it is ended", x.recordsWith(LEAST, MOST), 3);
    }

    private static void recordsWithCountsARecordOnce() {
        Due.sentence("Promise 12", "that have at least one value v");
        DremelStore x = new DremelStore();
        x.begin(true, 5);
        Stores.add(x, true, 5, 5, 5, 5, 5);
        Stores.add(x, false, 5, 5, 6);
        x.end();
        x.begin(true, 5);
        Stores.add(x, true, 5);
        x.end();
        x.begin(true, 5);
        x.end();
        x.begin(false, 0);
        Stores.add(x, false, 0, 7, 5, 7);
        x.end();
        Due.is("recordsWith(5, 5)", x.recordsWith(5, 5), 2);
        Due.is("recordsWith(6, 6)", x.recordsWith(6, 6), 1);
        Due.is("recordsWith(5, 7)", x.recordsWith(5, 7), 2);
        Due.is("recordsWith(all), two without a value", x.recordsWith(LEAST, MOST), 2);
        Due.is("recordsWith(0, 0), two without a value", x.recordsWith(0, 0), 0);
    }

    private static void recordsWithTakesBothBoundsIn() {
        Due.sentence("Promise 12", "low <= v <= high");
        DremelStore x = new DremelStore();
        x.begin(false, 0);
        Stores.add(x, false, 0, 10);
        x.end();
        Due.is("recordsWith(10, 10)", x.recordsWith(10, 10), 1);
        Due.is("recordsWith(9, 10)", x.recordsWith(9, 10), 1);
        Due.is("recordsWith(10, 11)", x.recordsWith(10, 11), 1);
        Due.is("recordsWith(9, 11)", x.recordsWith(9, 11), 1);
        Due.is("recordsWith(8, 9)", x.recordsWith(8, 9), 0);
        Due.is("recordsWith(11, 12)", x.recordsWith(11, 12), 0);
        Due.is("recordsWith(LEAST, 9)", x.recordsWith(LEAST, 9), 0);
        Due.is("recordsWith(LEAST, 10)", x.recordsWith(LEAST, 10), 1);
        Due.is("recordsWith(10, MOST)", x.recordsWith(10, MOST), 1);
        Due.is("recordsWith(11, MOST)", x.recordsWith(11, MOST), 0);
    }

    private static void recordsWithIsZeroForAnEmptyRange() {
        Due.sentence("Promise 12", "low <= v <= high");
        DremelStore x = new DremelStore();
        x.begin(false, 0);
        Stores.add(x, false, 0, 10, LEAST, MOST, 0);
        x.end();
        Due.is("recordsWith(11, 9)", x.recordsWith(11, 9), 0);
        Due.is("recordsWith(11, 10)", x.recordsWith(11, 10), 0);
        Due.is("recordsWith(10, 9)", x.recordsWith(10, 9), 0);
        Due.is("recordsWith(1, 0)", x.recordsWith(1, 0), 0);
        Due.is("recordsWith(MOST, LEAST)", x.recordsWith(MOST, LEAST), 0);
        Due.is("recordsWith(MOST, MOST - 1)", x.recordsWith(MOST, MOST - 1), 0);
        Due.is("recordsWith(LEAST + 1, LEAST)", x.recordsWith(LEAST + 1, LEAST), 0);
    }

    private static void recordsWithTakesTheOuterInts() {
        Due.sentence("Promise 12", "low <= v <= high");
        DremelStore x = new DremelStore();
        for (int value : Stores.INTS) {
            x.begin(false, 0);
            Stores.add(x, false, 0, value);
            x.end();
        }
        int last = Stores.INTS.length - 1;
        for (int low = 0; low <= last; low++) {
            for (int high = 0; high <= last; high++) {
                Due.is("recordsWith(" + Stores.INTS[low] + ", " + Stores.INTS[high] + ")",
                        x.recordsWith(Stores.INTS[low], Stores.INTS[high]), Math.max(0, high - low + 1));
            }
        }
    }

    private static void recordsWithLooksInEveryGroupAtEveryPlace() {
        Due.sentence("Promise 12", "in some group");
        DremelStore x = new DremelStore();
        x.begin(true, 99);
        for (int group = 0; group < 4; group++) {
            int first = 10 * group;
            Stores.add(x, group % 2 == 0, 99, first + 1, first + 2, first + 3, first + 4);
        }
        x.end();
        for (int i = 0; i < 16; i++) {
            int value = i / 4 * 10 + i % 4 + 1;
            Due.is("recordsWith(" + value + ", " + value + ")", x.recordsWith(value, value), 1);
        }
        Due.is("recordsWith of a tag and a note", x.recordsWith(99, 99), 0);
        Due.is("recordsWith between two groups", x.recordsWith(5, 10), 0);
    }

    private static void questionsChangeNothing() {
        Due.sentence("Not promised", "Nothing is promised beyond the answers and state changes described above");
        DremelStore x = Stores.sample();
        for (int turn = 0; turn < 3; turn++) {
            for (int rec = -1; rec < 5; rec++) {
                x.groups(rec);
                x.hasNote(rec);
                x.values(rec, turn);
                x.valueAt(rec, turn, 0);
                x.label(rec, turn - 1);
            }
            x.sumByTag(5);
            x.recordsWith(0, 9);
        }
        Due.is("value", x.value(101), 2);
        Due.is("group", x.group(false, 0), 2);
        Due.is("end()", x.end(), 4);
        Due.is("values(3, 0)", x.values(3, 0), 2);
        Due.is("sumByTag(5)", x.sumByTag(5), 207);
    }
}
