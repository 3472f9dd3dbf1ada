/** The example of README.md, call by call: whoever changes one of them changes both. */
public final class ReadmeTest {
    public static void main(String[] args) {
        Due.about("the example of README.md");
        DremelStore store = new DremelStore();
        buildTheRecord(store);
        askAboutIt(store);
        meetRefusals(store);
        Due.close();
    }

    private static void buildTheRecord(DremelStore store) {
        Due.is("begin(true, 9)", store.begin(true, 9), 0);
        Due.is("group(true, 5)", store.group(true, 5), 1);
        Due.is("value(1)", store.value(1), 1);
        Due.is("value(2)", store.value(2), 2);
        Due.is("group(false, 0)", store.group(false, 0), 2);
        Due.is("groups(0)", store.groups(0), -1);
        Due.is("end()", store.end(), 1);
    }

    private static void askAboutIt(DremelStore store) {
        Due.is("groups(0)", store.groups(0), 2);
        Due.is("values(0, 0)", store.values(0, 0), 2);
        Due.is("valueAt(0, 0, 1)", store.valueAt(0, 0, 1), 2);
        Due.is("hasNote(0)", store.hasNote(0), 1);
        Due.is("label(0, -1)", store.label(0, -1), 9);
        Due.is("label(0, 0)", store.label(0, 0), 5);
        Due.is("label(0, 1)", store.label(0, 1), 0);
        Due.is("sumByTag(5)", store.sumByTag(5), 3);
        Due.is("recordsWith(2, 10)", store.recordsWith(2, 10), 1);
    }

    private static void meetRefusals(DremelStore store) {
        Due.is("value(3)", store.value(3), -1);
        Due.is("values(0, 2)", store.values(0, 2), -1);
        Due.is("valueAt(0, 0, 2)", store.valueAt(0, 0, 2), 0);
    }
}
