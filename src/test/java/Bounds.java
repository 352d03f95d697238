import java.util.EnumMap;
import java.util.Map;
import java.util.Set;
import java.util.TreeSet;

/** What the tests of boundary cases share: a call's answer, and what it leaves as it was. */
final class Bounds {
    static final int BAD = -1, STATE = -2, FULL = -3, NONE = -9, NO = -1000000;

    /** Far numbers, and those that come to small ones again if they are multiplied or cut off. */
    static final int[] FAR = {Integer.MIN_VALUE, Integer.MIN_VALUE + 1, -(1 << 30), -65536, -256, 256, 65536, 1 << 28,
        1 << 29, 1 << 30, 357913942, 715827883, Integer.MAX_VALUE};

    /** A call, with its answer. */
    interface Ask {
        int on(FollowedPeaks x);
    }

    private final Checks checks;
    private final Map<Stand, Map<String, String>> portraits = new EnumMap<>(Stand.class);

    Bounds(Checks checks) {
        this.checks = checks;
        for (Stand stand : Stand.values()) {
            portraits.put(stand, Portrait.of(stand));
        }
    }

    /** The call answers so, and nothing has changed behind it. */
    void refused(Stand stand, String call, Ask ask, int want) {
        changesOnly(stand, call, ask, want);
    }

    void refusedEverywhere(String call, Ask ask, int want) {
        for (Stand stand : Stand.values()) {
            refused(stand, call, ask, want);
        }
    }

    /** The call answers so, and no part but these has changed behind it. */
    void changesOnly(Stand stand, String call, Ask ask, int want, String... parts) {
        FollowedPeaks x = stand.object();
        checks.due(stand + ": " + call, ask.on(x), want);
        Map<String, String> behind = Portrait.of(y -> {
            stand.lead(y);
            ask.on(y);
        });
        Set<String> unlike = new TreeSet<>(Portrait.unlike(portraits.get(stand), behind));
        unlike.removeAll(Set.of(parts));
        checks.dueTrue(stand + ": behind " + call + " these have changed: " + unlike, unlike.isEmpty());
    }

    /** These parts have changed, so that the portrait is known to show them. */
    void changesAll(Stand stand, String call, Ask ask, String... parts) {
        Map<String, String> behind = Portrait.of(y -> {
            stand.lead(y);
            ask.on(y);
        });
        Set<String> alike = new TreeSet<>(Set.of(parts));
        alike.removeAll(Portrait.unlike(portraits.get(stand), behind));
        checks.dueTrue(stand + ": behind " + call + " these have not changed: " + alike, alike.isEmpty());
    }
}
