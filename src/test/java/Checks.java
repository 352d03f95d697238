/** Counts the answers that are as due and those that are not; each test class uses one. */
final class Checks {
    private final String name;
    private int passed;
    private int failed;

    Checks(String name) {
        this.name = name;
    }

    void due(String call, long got, long want) {
        if (got == want) {
            passed++;
        } else {
            failed++;
            System.out.println(name + ": " + call + " answered " + got + ", due is " + want);
        }
    }

    void dueTrue(String what, boolean holds) {
        due(what, holds ? 1 : 0, 1);
    }

    /** count(0), count(1), .. are these. */
    void dueCounts(String name, FollowedPeaks x, int... want) {
        for (int what = 0; what < want.length; what++) {
            due(name + ": count(" + what + ")", x.count(what), want[what]);
        }
    }

    boolean anyFailed() {
        return failed > 0;
    }

    /** Prints the numbers, and ends the program with 1 if one was wrong. */
    void end() {
        System.out.println(name + ": " + passed + " passed, " + failed + " failed");
        if (failed > 0 || passed == 0) {
            System.exit(1);
        }
    }

    static void type(FollowedPeaks x, String text) {
        for (int i = 0; i < text.length(); i++) {
            x.type(text.charAt(i));
        }
    }

    /** A new text is typed and told. */
    static int tell(FollowedPeaks x, String text) {
        x.clear();
        type(x, text);
        return x.tells();
    }

    static FollowedPeaks told(String text) {
        FollowedPeaks x = new FollowedPeaks();
        tell(x, text);
        return x;
    }
}
