import java.util.ArrayList;
import java.util.List;
import java.util.function.BiConsumer;
import java.util.function.Consumer;
import java.util.function.ToIntFunction;

/**
 * Holds "-1, and changes nothing": of two objects built alike, one is handed the refused
 * call as well, and from then on both must give the same answers.
 */
final class Unchanged {
    // Each turn adds a group or moves on to the next record: 40 and 12 of them, and one to spare.
    private static final int TURNS = 53;

    private Unchanged() {
    }

    static void by(String call, Consumer<DremelStore> build, ToIntFunction<DremelStore> refused) {
        compare(call, build, refused, Unchanged::askAll);
        compare(call, build, refused, Unchanged::endAndAskAll);
        compare(call, build, refused, Unchanged::fillAndAskAll);
    }

    private static void compare(String call, Consumer<DremelStore> build, ToIntFunction<DremelStore> refused,
            BiConsumer<DremelStore, List<Integer>> goOn) {
        DremelStore plain = new DremelStore();
        DremelStore tried = new DremelStore();
        build.accept(plain);
        build.accept(tried);
        Due.is(call, refused.applyAsInt(tried), -1);
        Due.is(call + " again", refused.applyAsInt(tried), -1);
        List<Integer> due = new ArrayList<>();
        List<Integer> got = new ArrayList<>();
        goOn.accept(plain, due);
        goOn.accept(tried, got);
        Due.holds(call + " changes nothing: the answers after it are " + due + ", not " + got, got.equals(due));
    }

    /** Everything that can be asked about what the object holds. */
    private static void askAll(DremelStore x, List<Integer> answers) {
        for (int rec = 0; rec < 13; rec++) {
            int groups = x.groups(rec);
            answers.add(groups);
            answers.add(x.hasNote(rec));
            answers.add(x.label(rec, -1));
            for (int group = 0; group < groups; group++) {
                askGroup(x, rec, group, answers);
            }
        }
    }

    private static void askGroup(DremelStore x, int rec, int group, List<Integer> answers) {
        int values = x.values(rec, group);
        answers.add(values);
        answers.add(x.label(rec, group));
        for (int place = 0; place < values; place++) {
            answers.add(x.valueAt(rec, group, place));
        }
    }

    private static void endAndAskAll(DremelStore x, List<Integer> answers) {
        answers.add(x.end());
        askAll(x, answers);
    }

    /** Adds all that still can be added: what is held, and so each limit, must be where it was. */
    private static void fillAndAskAll(DremelStore x, List<Integer> answers) {
        boolean more = true;
        for (int turn = 0; turn < TURNS && more; turn++) {
            fillGroup(x, 1000 + turn, answers);
            more = addGroupOrRecord(x, turn, answers);
        }
        askAll(x, answers);
    }

    private static void fillGroup(DremelStore x, int value, List<Integer> answers) {
        int answer = 0;
        for (int count = 1; count <= 5 && answer != -1; count++) {
            answer = x.value(value);
            answers.add(answer);
        }
    }

    private static boolean addGroupOrRecord(DremelStore x, int turn, List<Integer> answers) {
        int answer = x.group(turn % 2 == 0, 2000 + turn);
        answers.add(answer);
        if (answer == -1) {
            answers.add(x.end());
            answer = x.begin(turn % 3 == 0, 3000 + turn);
            answers.add(answer);
        }
        return answer != -1;
    }
}
