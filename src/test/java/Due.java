/** Counts the calls of a test and tells of those whose answer is not the one that is due. */
final class Due {
    private static int calls = 0;
    private static int wrong = 0;
    private static String part = "";

    private Due() {
    }

    /** Names the promise that the calls behind it are about. */
    static void part(String name) {
        part = name;
    }

    static void is(String call, long got, long want) {
        calls++;
        if (got != want) {
            wrong++;
            System.out.println(part + ": " + call + " answered " + got + ", due is " + want);
        }
    }

    static void holds(String what, boolean so) {
        calls++;
        if (!so) {
            wrong++;
            System.out.println(part + ": " + what + " is not so");
        }
    }

    static int wrong() {
        return wrong;
    }

    /** The last call of a main method. */
    static void end() {
        System.out.println(calls + " answers looked at, " + wrong + " are not as due");
        if (wrong != 0) {
            System.exit(1);
        }
    }
}
