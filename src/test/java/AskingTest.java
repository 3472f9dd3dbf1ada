/** Promises 6 to 12: the questions about ended records. */
public final class AskingTest {
    private static final int LEAST = Integer.MIN_VALUE;
    private static final int MOST = Integer.MAX_VALUE;
    // Numbers that no record, group or place here bears; -1 is left to label's own tests.
    private static final int[] NOT_THERE = {LEAST, -5, -4, -2, 5, 11, 12, 16, 40, 1 << 28, 1 << 30, MOST};

    public static void main(String[] args) {
        groupsCountsEachRecord();
        groupsRefusesWhatIsNotEnded();
        valuesCountsEachGroup();
        valuesRefusesWhatIsNotThere();
        valueAtAnswersEachPlace();
        valueAtRefusesWithZero();
        hasNoteTellsOneOrZero();
        hasNoteRefusesWhatIsNotEnded();
        labelAnswersTagsAndNotes();
        labelIsZeroForNoneAndForRefused();
        sumByTagAddsOverGroupsAndRecords();
        sumByTagPassesOverGroupsWithoutATag();
        sumByTagWraps();
        sumByTagLeavesOutTheOpenRecord();
        recordsWithCountsRecordsNotValues();
        recordsWithTakesBothBoundsIn();
        recordsWithTakesTheWholeRange();
        recordsWithLeavesOutTheOpenRecord();
        questionsChangeNothing();
        Due.close();
    }

    /**
     * Record 0: note 9; groups (5: 1, 2), (none: empty), (5: 3).
     * Record 1: no note, no groups.
     * Record 2: note 0; groups (0: 0, -1, -2, -3), (-1: -7), (none: 6), (2: empty).
     * Record 3 is open: note 4; group (5: 100).
     */
    private static DremelStore sample() {
        DremelStore x = new DremelStore();
        x.begin(true, 9);
        add(x, true, 5, 1, 2);
        add(x, false, 8);
        add(x, true, 5, 3);
        x.end();
        x.begin(false, 1);
        x.end();
        x.begin(true, 0);
        add(x, true, 0, 0, -1, -2, -3);
        add(x, true, -1, -7);
        add(x, false, 2, 6);
        add(x, true, 2);
        x.end();
        x.begin(true, 4);
        add(x, true, 5, 100);
        return x;
    }

    private static void add(DremelStore x, boolean has, int tag, int... values) {
        x.group(has, tag);
        for (int value : values) {
            x.value(value);
        }
    }

    private static void groupsCountsEachRecord() {
        Due.about("promise 6, counts");
        DremelStore x = sample();
        Due.is("groups(0)", x.groups(0), 3);
        Due.is("groups(1)", x.groups(1), 0);
        Due.is("groups(2)", x.groups(2), 4);
    }

    private static void groupsRefusesWhatIsNotEnded() {
        Due.about("promise 6, refused");
        DremelStore x = sample();
        Due.is("groups(-1)", x.groups(-1), -1);
        Due.is("groups of the open one", x.groups(3), -1);
        Due.is("groups(4)", x.groups(4), -1);
        for (int rec : NOT_THERE) {
            Due.is("groups(" + rec + ")", x.groups(rec), -1);
        }
        x.end();
        Due.is("groups(3)", x.groups(3), 1);
    }

    private static void valuesCountsEachGroup() {
        Due.about("promise 7, counts");
        DremelStore x = sample();
        Due.is("values(0, 0)", x.values(0, 0), 2);
        Due.is("values(0, 1)", x.values(0, 1), 0);
        Due.is("values(0, 2)", x.values(0, 2), 1);
        Due.is("values(2, 0)", x.values(2, 0), 4);
        Due.is("values(2, 1)", x.values(2, 1), 1);
        Due.is("values(2, 2)", x.values(2, 2), 1);
        Due.is("values(2, 3)", x.values(2, 3), 0);
    }

    private static void valuesRefusesWhatIsNotThere() {
        Due.about("promise 7, refused");
        DremelStore x = sample();
        Due.is("values(0, 3)", x.values(0, 3), -1);
        Due.is("values(0, -1)", x.values(0, -1), -1);
        Due.is("values(1, 0)", x.values(1, 0), -1);
        Due.is("values(1, -1)", x.values(1, -1), -1);
        Due.is("values(2, 4)", x.values(2, 4), -1);
        Due.is("values(2, -1)", x.values(2, -1), -1);
        Due.is("values of the open one", x.values(3, 0), -1);
        Due.is("values(4, 0)", x.values(4, 0), -1);
        Due.is("values(-1, 0)", x.values(-1, 0), -1);
        Due.is("values(-1, 4)", x.values(-1, 4), -1);
        for (int number : NOT_THERE) {
            Due.is("values(" + number + ", 0)", x.values(number, 0), -1);
            Due.is("values(0, " + number + ")", x.values(0, number), -1);
            Due.is("values(2, " + number + ")", x.values(2, number), -1);
        }
    }

    private static void valueAtAnswersEachPlace() {
        Due.about("promise 8, places");
        DremelStore x = sample();
        Due.is("valueAt(0, 0, 0)", x.valueAt(0, 0, 0), 1);
        Due.is("valueAt(0, 0, 1)", x.valueAt(0, 0, 1), 2);
        Due.is("valueAt(0, 2, 0)", x.valueAt(0, 2, 0), 3);
        for (int place = 0; place < 4; place++) {
            Due.is("valueAt(2, 0, " + place + ")", x.valueAt(2, 0, place), -place);
        }
        Due.is("valueAt(2, 1, 0)", x.valueAt(2, 1, 0), -7);
        Due.is("valueAt(2, 2, 0)", x.valueAt(2, 2, 0), 6);
    }

    private static void valueAtRefusesWithZero() {
        Due.about("promise 8, refused");
        DremelStore x = sample();
        Due.is("valueAt(0, 0, 2)", x.valueAt(0, 0, 2), 0);
        Due.is("valueAt(0, 0, 8)", x.valueAt(0, 0, 8), 0);
        Due.is("valueAt(0, 1, 0)", x.valueAt(0, 1, 0), 0);
        Due.is("valueAt(0, 1, -4)", x.valueAt(0, 1, -4), 0);
        Due.is("valueAt(0, 2, -1)", x.valueAt(0, 2, -1), 0);
        Due.is("valueAt(0, 3, 0)", x.valueAt(0, 3, 0), 0);
        Due.is("valueAt(0, -1, 0)", x.valueAt(0, -1, 0), 0);
        Due.is("valueAt(1, 0, 0)", x.valueAt(1, 0, 0), 0);
        Due.is("valueAt(2, 0, 4)", x.valueAt(2, 0, 4), 0);
        Due.is("valueAt(2, 1, -1)", x.valueAt(2, 1, -1), 0);
        Due.is("valueAt(2, -1, 0)", x.valueAt(2, -1, 0), 0);
        Due.is("valueAt of the open one", x.valueAt(3, 0, 0), 0);
        Due.is("valueAt(-1, 0, 0)", x.valueAt(-1, 0, 0), 0);
        for (int number : NOT_THERE) {
            Due.is("valueAt(" + number + ", 0, 0)", x.valueAt(number, 0, 0), 0);
            Due.is("valueAt(0, " + number + ", 0)", x.valueAt(0, number, 0), 0);
            Due.is("valueAt(0, 0, " + number + ")", x.valueAt(0, 0, number), 0);
        }
        x.end();
        Due.is("valueAt(3, 0, 0)", x.valueAt(3, 0, 0), 100);
    }

    private static void hasNoteTellsOneOrZero() {
        Due.about("promise 9, notes");
        DremelStore x = sample();
        Due.is("hasNote(0)", x.hasNote(0), 1);
        Due.is("hasNote(1)", x.hasNote(1), 0);
        Due.is("hasNote of note 0", x.hasNote(2), 1);
    }

    private static void hasNoteRefusesWhatIsNotEnded() {
        Due.about("promise 9, refused");
        DremelStore x = sample();
        Due.is("hasNote(-1)", x.hasNote(-1), -1);
        Due.is("hasNote of the open one", x.hasNote(3), -1);
        Due.is("hasNote(4)", x.hasNote(4), -1);
        for (int rec : NOT_THERE) {
            Due.is("hasNote(" + rec + ")", x.hasNote(rec), -1);
        }
        x.end();
        Due.is("hasNote(3)", x.hasNote(3), 1);
    }

    private static void labelAnswersTagsAndNotes() {
        Due.about("promise 10, labels");
        DremelStore x = sample();
        Due.is("label(0, -1)", x.label(0, -1), 9);
        Due.is("label(0, 0)", x.label(0, 0), 5);
        Due.is("label(0, 2)", x.label(0, 2), 5);
        Due.is("label(2, -1)", x.label(2, -1), 0);
        Due.is("label(2, 0)", x.label(2, 0), 0);
        Due.is("label(2, 1)", x.label(2, 1), -1);
        Due.is("label(2, 3)", x.label(2, 3), 2);
    }

    private static void labelIsZeroForNoneAndForRefused() {
        Due.about("promise 10, none and refused");
        DremelStore x = sample();
        Due.is("label of a group without a tag", x.label(0, 1), 0);
        Due.is("label of a group without a tag", x.label(2, 2), 0);
        Due.is("label of a record without a note", x.label(1, -1), 0);
        Due.is("label(0, 3)", x.label(0, 3), 0);
        Due.is("label(0, 4)", x.label(0, 4), 0);
        Due.is("label(0, 9)", x.label(0, 9), 0);
        Due.is("label(0, -2)", x.label(0, -2), 0);
        Due.is("label(1, 0)", x.label(1, 0), 0);
        Due.is("label(2, -8)", x.label(2, -8), 0);
        Due.is("label of the open one's note", x.label(3, -1), 0);
        Due.is("label of the open one's group", x.label(3, 0), 0);
        Due.is("label(-1, -1)", x.label(-1, -1), 0);
        Due.is("label(-1, 4)", x.label(-1, 4), 0);
        for (int number : NOT_THERE) {
            Due.is("label(" + number + ", -1)", x.label(number, -1), 0);
            Due.is("label(" + number + ", 0)", x.label(number, 0), 0);
            Due.is("label(0, " + number + ")", x.label(0, number), 0);
        }
        x.end();
        Due.is("label(3, -1)", x.label(3, -1), 4);
        Due.is("label(3, 0)", x.label(3, 0), 5);
    }

    private static void sumByTagAddsOverGroupsAndRecords() {
        Due.about("promise 11, sums");
        DremelStore x = sample();
        Due.is("sumByTag(5)", x.sumByTag(5), 6);
        Due.is("sumByTag(0)", x.sumByTag(0), -6);
        Due.is("sumByTag(-1)", x.sumByTag(-1), -7);
        Due.is("sumByTag of an empty group", x.sumByTag(2), 0);
        Due.is("sumByTag of no group", x.sumByTag(77), 0);
        Due.is("sumByTag of a note", x.sumByTag(9), 0);
        x.end();
        Due.is("sumByTag(5) over two records", x.sumByTag(5), 106);
    }

    private static void sumByTagPassesOverGroupsWithoutATag() {
        Due.about("promise 11, no tag");
        DremelStore x = new DremelStore();
        x.begin(true, 3);
        add(x, false, 0, 10);
        add(x, false, 3, 20);
        add(x, true, 3, 40);
        x.end();
        Due.is("sumByTag(0)", x.sumByTag(0), 0);
        Due.is("sumByTag(3)", x.sumByTag(3), 40);
    }

    private static void sumByTagWraps() {
        Due.about("promise 11, wrapping");
        DremelStore x = new DremelStore();
        x.begin(false, 0);
        add(x, true, LEAST, MOST, 1);
        add(x, true, MOST, LEAST, -1);
        x.end();
        x.begin(false, 0);
        add(x, true, LEAST, MOST, MOST);
        x.end();
        Due.is("sumByTag(LEAST)", x.sumByTag(LEAST), MOST - 1);
        Due.is("sumByTag(MOST)", x.sumByTag(MOST), MOST);
    }

    private static void sumByTagLeavesOutTheOpenRecord() {
        Due.about("promise 11, open record");
        DremelStore x = new DremelStore();
        x.begin(false, 0);
        add(x, true, 1, 10);
        Due.is("sumByTag(1) while open", x.sumByTag(1), 0);
        x.end();
        Due.is("sumByTag(1) when ended", x.sumByTag(1), 10);
    }

    private static void recordsWithCountsRecordsNotValues() {
        Due.about("promise 12, counts");
        DremelStore x = sample();
        Due.is("recordsWith(1, 3)", x.recordsWith(1, 3), 1);
        Due.is("recordsWith(1, 6)", x.recordsWith(1, 6), 2);
        Due.is("recordsWith(3, 3)", x.recordsWith(3, 3), 1);
        Due.is("recordsWith(-3, -3)", x.recordsWith(-3, -3), 1);
        Due.is("recordsWith of a group without a tag", x.recordsWith(6, 6), 1);
        Due.is("recordsWith between values", x.recordsWith(4, 5), 0);
        Due.is("recordsWith of a value that is nowhere", x.recordsWith(9, 9), 0);
    }

    private static void recordsWithTakesBothBoundsIn() {
        Due.about("promise 12, bounds");
        DremelStore x = new DremelStore();
        x.begin(false, 0);
        add(x, false, 0, 10);
        x.end();
        Due.is("recordsWith(10, 10)", x.recordsWith(10, 10), 1);
        Due.is("recordsWith(9, 10)", x.recordsWith(9, 10), 1);
        Due.is("recordsWith(10, 11)", x.recordsWith(10, 11), 1);
        Due.is("recordsWith(8, 9)", x.recordsWith(8, 9), 0);
        Due.is("recordsWith(11, 12)", x.recordsWith(11, 12), 0);
        Due.is("recordsWith(11, 9)", x.recordsWith(11, 9), 0);
        Due.is("recordsWith(11, 10)", x.recordsWith(11, 10), 0);
        Due.is("recordsWith(10, 9)", x.recordsWith(10, 9), 0);
    }

    private static void recordsWithTakesTheWholeRange() {
        Due.about("promise 12, whole range");
        DremelStore x = new DremelStore();
        int[] values = {LEAST, -1, 0, MOST};
        for (int value : values) {
            x.begin(false, 0);
            add(x, false, 0);
            add(x, false, 0, value);
            x.end();
        }
        x.begin(true, 0);
        add(x, true, 0);
        x.end();
        Due.is("recordsWith(LEAST, MOST)", x.recordsWith(LEAST, MOST), 4);
        Due.is("recordsWith(LEAST, LEAST)", x.recordsWith(LEAST, LEAST), 1);
        Due.is("recordsWith(MOST, MOST)", x.recordsWith(MOST, MOST), 1);
        Due.is("recordsWith(LEAST, -1)", x.recordsWith(LEAST, -1), 2);
        Due.is("recordsWith(0, MOST)", x.recordsWith(0, MOST), 2);
        Due.is("recordsWith(0, 0)", x.recordsWith(0, 0), 1);
        Due.is("recordsWith(MOST, LEAST)", x.recordsWith(MOST, LEAST), 0);
    }

    private static void recordsWithLeavesOutTheOpenRecord() {
        Due.about("promise 12, open record");
        DremelStore x = sample();
        Due.is("recordsWith(100, 100) while open", x.recordsWith(100, 100), 0);
        x.end();
        Due.is("recordsWith(100, 100) when ended", x.recordsWith(100, 100), 1);
    }

    private static void questionsChangeNothing() {
        Due.about("promises 6 to 12, questions change nothing");
        DremelStore x = sample();
        for (int turn = 0; turn < 3; turn++) {
            for (int rec = -1; rec < 5; rec++) {
                x.groups(rec);
                x.hasNote(rec);
                x.values(rec, turn);
                x.valueAt(rec, turn, 0);
                x.label(rec, turn - 1);
            }
            x.sumByTag(5);
            x.recordsWith(0, 9);
        }
        Due.is("value", x.value(101), 2);
        Due.is("group", x.group(false, 0), 2);
        Due.is("end()", x.end(), 4);
        Due.is("values(3, 0)", x.values(3, 0), 2);
        Due.is("sumByTag(5)", x.sumByTag(5), 207);
    }
}
