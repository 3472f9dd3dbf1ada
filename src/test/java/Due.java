/** Counts and prints the answers that are not the ones due; the tests share it. */
final class Due {
    private static int wrong = 0;
    private static int looked = 0;
    private static String about = "";

    private Due() {
    }

    static void about(String what) {
        about = what;
    }

    /** The section of the document and its words that the answers looked at from here on hold. */
    static void sentence(String section, String words) {
        about = section + ", \"" + words + "\"";
    }

    static void is(String call, long got, long want) {
        looked++;
        if (got != want) {
            wrong++;
            System.out.println(about + ": " + call + " answered " + got + ", due is " + want);
        }
    }

    static void holds(String what, boolean so) {
        looked++;
        if (!so) {
            wrong++;
            System.out.println(about + ": not so: " + what);
        }
    }

    static int wrongSoFar() {
        return wrong;
    }

    static void close() {
        System.out.println(looked + " answers looked at, " + wrong + " not as due");
        if (wrong != 0 || looked == 0) {
            System.exit(1);
        }
    }
}
