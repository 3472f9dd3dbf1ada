public final class DremelStore {
    private static final int MAX_RECORDS = 12;
    private static final int MAX_GROUPS_IN_RECORD = 4;
    private static final int MAX_VALUES_IN_GROUP = 4;
    private static final int MAX_GROUPS_HELD = 40;
    private static final int MAX_VALUES_HELD = 60;
    private static final int GROUP_SLOTS = MAX_RECORDS * MAX_GROUPS_IN_RECORD;
    private static final int VALUE_SLOTS = GROUP_SLOTS * MAX_VALUES_IN_GROUP;

    private static final int REFUSED = -1;
    private static final int NOTHING = 0;
    private static final int NOTE_OF_RECORD = -1;

    // Every record owns a fixed stretch of the columns below, and every group a
    // fixed stretch of valueColumn, so that a place is found without a search.
    private final boolean[] noteGiven = new boolean[MAX_RECORDS];
    private final int[] noteColumn = new int[MAX_RECORDS];
    private final int[] groupCount = new int[MAX_RECORDS];
    private final boolean[] tagGiven = new boolean[GROUP_SLOTS];
    private final int[] tagColumn = new int[GROUP_SLOTS];
    private final int[] valueCount = new int[GROUP_SLOTS];
    private final int[] valueColumn = new int[VALUE_SLOTS];

    // The open record, if there is one, is the one whose number is ended.
    private int ended;
    private boolean open;
    private int groupsHeld;
    private int valuesHeld;

    public DremelStore() {
        ended = 0;
        open = false;
        groupsHeld = 0;
        valuesHeld = 0;
    }

    public int begin(boolean has, int note) {
        if (open || ended >= MAX_RECORDS) {
            return REFUSED;
        }
        noteGiven[ended] = has;
        noteColumn[ended] = note;
        open = true;
        return ended;
    }

    public int group(boolean has, int tag) {
        if (!open || groupCount[ended] >= MAX_GROUPS_IN_RECORD || groupsHeld >= MAX_GROUPS_HELD) {
            return REFUSED;
        }
        int slot = groupSlot(ended, groupCount[ended]);
        tagGiven[slot] = has;
        tagColumn[slot] = tag;
        groupCount[ended]++;
        groupsHeld++;
        return groupCount[ended];
    }

    public int value(int value) {
        if (!open || groupCount[ended] == 0 || valuesHeld >= MAX_VALUES_HELD) {
            return REFUSED;
        }
        int slot = groupSlot(ended, groupCount[ended] - 1);
        if (valueCount[slot] >= MAX_VALUES_IN_GROUP) {
            return REFUSED;
        }
        int cell = valueSlot(slot, valueCount[slot]);
        valueColumn[cell] = value;
        valueCount[slot]++;
        valuesHeld++;
        return valueCount[slot];
    }

    public int end() {
        if (!open) {
            return REFUSED;
        }
        open = false;
        ended++;
        return ended;
    }

    public int groups(int rec) {
        return isEnded(rec) ? groupCount[rec] : REFUSED;
    }

    public int values(int rec, int group) {
        if (!isGroupOfEnded(rec, group)) {
            return REFUSED;
        }
        int slot = groupSlot(rec, group);
        return valueCount[slot];
    }

    public int valueAt(int rec, int group, int place) {
        if (!isGroupOfEnded(rec, group)) {
            return NOTHING;
        }
        int slot = groupSlot(rec, group);
        if (place < 0 || place >= valueCount[slot]) {
            return NOTHING;
        }
        int cell = valueSlot(slot, place);
        return valueColumn[cell];
    }

    public int hasNote(int rec) {
        if (!isEnded(rec)) {
            return REFUSED;
        }
        return noteGiven[rec] ? 1 : 0;
    }

    public int label(int rec, int group) {
        return group == NOTE_OF_RECORD ? noteOf(rec) : tagOf(rec, group);
    }

    public int sumByTag(int tag) {
        int sum = 0;
        for (int rec = 0; rec < ended; rec++) {
            for (int group = 0; group < groupCount[rec]; group++) {
                int slot = groupSlot(rec, group);
                if (tagGiven[slot] && tagColumn[slot] == tag) {
                    sum += sumOfGroup(slot);
                }
            }
        }
        return sum;
    }

    public int recordsWith(int low, int high) {
        int found = 0;
        for (int rec = 0; rec < ended; rec++) {
            if (recordReaches(rec, low, high)) {
                found++;
            }
        }
        return found;
    }

    private int noteOf(int rec) {
        return isEnded(rec) && noteGiven[rec] ? noteColumn[rec] : NOTHING;
    }

    private int tagOf(int rec, int group) {
        if (!isGroupOfEnded(rec, group)) {
            return NOTHING;
        }
        int slot = groupSlot(rec, group);
        return tagGiven[slot] ? tagColumn[slot] : NOTHING;
    }

    private int sumOfGroup(int slot) {
        int sum = 0;
        for (int place = 0; place < valueCount[slot]; place++) {
            int cell = valueSlot(slot, place);
            sum += valueColumn[cell];
        }
        return sum;
    }

    private boolean recordReaches(int rec, int low, int high) {
        for (int group = 0; group < groupCount[rec]; group++) {
            int slot = groupSlot(rec, group);
            if (groupReaches(slot, low, high)) {
                return true;
            }
        }
        return false;
    }

    private boolean groupReaches(int slot, int low, int high) {
        for (int place = 0; place < valueCount[slot]; place++) {
            int cell = valueSlot(slot, place);
            if (low <= valueColumn[cell] && valueColumn[cell] <= high) {
                return true;
            }
        }
        return false;
    }

    private boolean isEnded(int rec) {
        return rec >= 0 && rec < ended;
    }

    private boolean isGroupOfEnded(int rec, int group) {
        return isEnded(rec) && group >= 0 && group < groupCount[rec];
    }

    private static int groupSlot(int rec, int group) {
        return rec * MAX_GROUPS_IN_RECORD + group;
    }

    private static int valueSlot(int slot, int place) {
        return slot * MAX_VALUES_IN_GROUP + place;
    }
}
