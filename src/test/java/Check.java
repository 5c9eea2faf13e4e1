/** Counts answers that are not as due; every test ends with end(). */
final class Check {
    private static int wrong = 0;
    private static int asked = 0;
    private static String about = "";

    private Check() { }

    /** What the answers that follow are about: it stands ahead of each that is not as due. */
    static void about(String what) {
        about = what;
    }

    static int asked() {
        return asked;
    }

    static void due(String call, long got, long want) {
        asked++;
        if (got != want) {
            wrong++;
            System.out.println(about + call + " answered " + got + ", due is " + want);
        }
    }

    /** A call that answers a long and is refused: LOST, and status() tells why. */
    static void lost(String call, QueryHandles x, long got, int why) {
        due(call, got, QueryHandles.LOST);
        due(call + ", status()", x.status(), why);
    }

    static void that(String what, boolean so) {
        due(what, so ? 1 : 0, 1);
    }

    static boolean allAsDue() {
        return wrong == 0;
    }

    static void end(String name) {
        System.out.println(name + ": " + asked + " answers, " + wrong + " not as due");
        if (wrong != 0) {
            System.exit(1);
        }
    }
}
