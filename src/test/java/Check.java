/** Counts the answers that are as due, and prints those that are not. */
final class Check {
    private static int passed = 0;
    private static int failed = 0;
    private static String promise = "";

    private Check() {
    }

    /** Names the promise to which the next answers belong. */
    static void promise(int number, String name) {
        promise = "promise " + number + " (" + name + ")";
    }

    static void rule(String name) {
        promise = "rule (" + name + ")";
    }

    static void due(String call, long got, long want) {
        if (got == want) {
            passed++;
        } else {
            failed++;
            System.out.println(promise + ": " + call + " answered " + got + ", due is " + want);
        }
    }

    static void same(String what, String got, String want) {
        if (got.equals(want)) {
            passed++;
        } else {
            failed++;
            System.out.println(promise + ": " + what + ":\n  told " + got + "\n  due  " + want);
        }
    }

    static void holds(String what, boolean got) {
        due(what, got ? 1 : 0, 1);
    }

    /** Prints how many answers were as due; how many were not. */
    static int finish() {
        System.out.println(passed + " answers as due, " + failed + " not");
        return failed;
    }
}
