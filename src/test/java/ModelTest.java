import java.util.ArrayList;
import java.util.List;

/** All promises at once: long mixed runs, each answer held against a plain model of the document. */
public final class ModelTest {
    private static final int RUNS = 4000;
    // The document leaves free what an object answers after its 512th call.
    private static final int CALLS = 512;
    private static final int[] EDGES = {Integer.MIN_VALUE, -2, -1, 0, 1, 2, 3, Integer.MAX_VALUE};

    private static final class Group {
        private Integer tag;
        private final List<Integer> values = new ArrayList<>();
    }

    private static final class Rec {
        private Integer note;
        private final List<Group> groups = new ArrayList<>();
    }

    private final DremelStore store = new DremelStore();
    private final List<Rec> done = new ArrayList<>();
    private Rec open = null;
    private long seed;

    private ModelTest(long seed) {
        this.seed = seed * 7919 + 1;
    }

    public static void main(String[] args) {
        for (int run = 0; run < RUNS && Due.wrongSoFar() == 0; run++) {
            Due.about("model run " + run);
            new ModelTest(run).run(run);
        }
        Due.close();
    }

    /** The shares differ from run to run, so that some runs meet 12 records, some 40 groups, some 60 values. */
    private void run(int run) {
        int questions = run % 4 == 0 ? 20 : 60;
        int ends = 1 + run % 3 * 4;
        int valuesShare = 5 + run / 3 % 3 * 30;
        for (int call = 0; call < CALLS; call++) {
            if (next(100) < questions) {
                ask();
            } else {
                build(ends, 15, valuesShare);
            }
        }
    }

    /** A generator of the test's own: every run is the same each time. */
    private int next(int bound) {
        seed = seed * 6364136223846793005L + 1442695040888963407L;
        return (int) ((seed >>> 33) % bound);
    }

    private int someInt() {
        return next(4) == 0 ? EDGES[next(EDGES.length)] : next(7) - 3;
    }

    private int someNumber(int past) {
        return next(20) == 0 ? EDGES[next(EDGES.length)] : next(past + 2) - 1;
    }

    private void build(int ends, int groups, int values) {
        int pick = next(2 * ends + groups + values);
        if (pick < ends) {
            boolean has = next(2) == 0;
            int note = someInt();
            Due.is("begin(" + has + ", " + note + ")", store.begin(has, note), begin(has, note));
        } else if (pick < 2 * ends) {
            Due.is("end()", store.end(), end());
        } else if (pick < 2 * ends + groups) {
            boolean has = next(2) == 0;
            int tag = someInt();
            Due.is("group(" + has + ", " + tag + ")", store.group(has, tag), group(has, tag));
        } else {
            int value = someInt();
            Due.is("value(" + value + ")", store.value(value), value(value));
        }
    }

    private void ask() {
        int rec = someNumber(done.size() + 1);
        int group = someNumber(4);
        int place = someNumber(4);
        int low = someInt();
        int high = someInt();
        switch (next(7)) {
            case 0 -> Due.is("groups(" + rec + ")", store.groups(rec), groups(rec));
            case 1 -> Due.is("values(" + rec + ", " + group + ")", store.values(rec, group), values(rec, group));
            case 2 -> Due.is("valueAt(" + rec + ", " + group + ", " + place + ")",
                    store.valueAt(rec, group, place), valueAt(rec, group, place));
            case 3 -> Due.is("hasNote(" + rec + ")", store.hasNote(rec), hasNote(rec));
            case 4 -> Due.is("label(" + rec + ", " + group + ")", store.label(rec, group), label(rec, group));
            case 5 -> Due.is("sumByTag(" + low + ")", store.sumByTag(low), sumByTag(low));
            default -> Due.is("recordsWith(" + low + ", " + high + ")",
                    store.recordsWith(low, high), recordsWith(low, high));
        }
    }

    private int begin(boolean has, int note) {
        if (open != null || done.size() == 12) {
            return -1;
        }
        open = new Rec();
        open.note = has ? note : null;
        return done.size();
    }

    private int group(boolean has, int tag) {
        if (open == null || open.groups.size() == 4 || allGroups().size() == 40) {
            return -1;
        }
        Group group = new Group();
        group.tag = has ? tag : null;
        open.groups.add(group);
        return open.groups.size();
    }

    private int value(int value) {
        if (open == null || open.groups.isEmpty()) {
            return -1;
        }
        Group last = open.groups.get(open.groups.size() - 1);
        int held = allGroups().stream().mapToInt(group -> group.values.size()).sum();
        if (last.values.size() == 4 || held == 60) {
            return -1;
        }
        last.values.add(value);
        return last.values.size();
    }

    private int end() {
        if (open == null) {
            return -1;
        }
        done.add(open);
        open = null;
        return done.size();
    }

    private List<Group> allGroups() {
        List<Group> all = new ArrayList<>();
        done.forEach(rec -> all.addAll(rec.groups));
        if (open != null) {
            all.addAll(open.groups);
        }
        return all;
    }

    private static <T> T find(List<T> list, int number) {
        return number >= 0 && number < list.size() ? list.get(number) : null;
    }

    private Group findGroup(int rec, int group) {
        Rec found = find(done, rec);
        return found == null ? null : find(found.groups, group);
    }

    private int groups(int rec) {
        Rec found = find(done, rec);
        return found == null ? -1 : found.groups.size();
    }

    private int values(int rec, int group) {
        Group found = findGroup(rec, group);
        return found == null ? -1 : found.values.size();
    }

    private int valueAt(int rec, int group, int place) {
        Group found = findGroup(rec, group);
        Integer value = found == null ? null : find(found.values, place);
        return value == null ? 0 : value;
    }

    private int hasNote(int rec) {
        Rec found = find(done, rec);
        if (found == null) {
            return -1;
        }
        return found.note == null ? 0 : 1;
    }

    private int label(int rec, int group) {
        Rec found = find(done, rec);
        if (found == null) {
            return 0;
        }
        Group inner = find(found.groups, group);
        Integer tag = inner == null ? null : inner.tag;
        Integer label = group == -1 ? found.note : tag;
        return label == null ? 0 : label;
    }

    private int sumByTag(int tag) {
        return done.stream().flatMap(rec -> rec.groups.stream())
                .filter(group -> group.tag != null && group.tag == tag)
                .flatMap(group -> group.values.stream())
                .mapToInt(value -> value).sum();
    }

    private int recordsWith(int low, int high) {
        return (int) done.stream().filter(rec -> rec.groups.stream()
                .anyMatch(group -> group.values.stream().anyMatch(value -> low <= value && value <= high))).count();
    }
}
