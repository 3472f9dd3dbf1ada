/** What several tests start from: a sample, and ways to fill an object up to a limit. */
final class Stores {
    static final int LEAST = Integer.MIN_VALUE;
    static final int MOST = Integer.MAX_VALUE;
    static final int[] INTS = {LEAST, LEAST + 1, -1, 0, 1, MOST - 1, MOST};
    // Numbers that no record, group or place of any test bears. Some of them, times 4
    // or 16, wrap around to a number that one does bear. -1 means the note in label.
    static final int[] NEVER_THERE = {
        LEAST, LEAST + 1, -1 << 30, -1 << 28, -16, -12, -8, -5, -4, -3, -2,
        12, 13, 16, 40, 48, 60, 1 << 28, (1 << 28) + 1, 1 << 30, (1 << 30) + 1, MOST - 1, MOST};

    private Stores() {
    }

    /**
     * Record 0: note 9; groups (5: 1, 2), (none: empty), (5: 3).
     * Record 1: no note, no groups.
     * Record 2: note 0; groups (0: 0, -1, -2, -3), (-1: -7), (none: 6), (2: empty).
     * Record 3 is open: note 4; group (5: 100).
     */
    static DremelStore sample() {
        DremelStore x = new DremelStore();
        x.begin(true, 9);
        add(x, true, 5, 1, 2);
        add(x, false, 8);
        add(x, true, 5, 3);
        x.end();
        x.begin(false, 1);
        x.end();
        x.begin(true, 0);
        add(x, true, 0, 0, -1, -2, -3);
        add(x, true, -1, -7);
        add(x, false, 2, 6);
        add(x, true, 2);
        x.end();
        x.begin(true, 4);
        add(x, true, 5, 100);
        return x;
    }

    /** Adds a group and its values to the open record. */
    static void add(DremelStore x, boolean has, int tag, int... values) {
        x.group(has, tag);
        for (int value : values) {
            x.value(value);
        }
    }

    /** Adds a group of 4 values, each of them value. */
    static void addFullGroup(DremelStore x, boolean has, int tag, int value) {
        add(x, has, tag, value, value, value, value);
    }

    /** Adds ended records that have neither a note nor a group. */
    static void addEmptyRecords(DremelStore x, int records) {
        for (int turn = 0; turn < records; turn++) {
            x.begin(false, 0);
            x.end();
        }
    }

    /** Adds an ended record of so many groups without values, each with the tag. */
    static void addRecordOfEmptyGroups(DremelStore x, int groups, int tag) {
        x.begin(false, 0);
        for (int count = 1; count <= groups; count++) {
            Due.is("group " + count + " of a record to start from", x.group(true, tag), count);
        }
        x.end();
    }

    /** Adds ended records of full groups, the last one as full as it gets: so many values, each 1, with tag 1. */
    static void addValues(DremelStore x, int values) {
        for (int left = values; left > 0; left -= 16) {
            x.begin(false, 0);
            for (int inRecord = Math.min(left, 16); inRecord > 0; inRecord -= 4) {
                x.group(true, 1);
                for (int count = 1; count <= Math.min(inRecord, 4); count++) {
                    Due.is("value " + count + " of a group to start from", x.value(1), count);
                }
            }
            x.end();
        }
    }
}
