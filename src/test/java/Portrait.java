import java.util.LinkedHashMap;
import java.util.Map;
import java.util.Set;
import java.util.TreeSet;

/**
 * All that an object answers, in parts: what it is asked alone, and what calls lay open that nothing
 * else shows (the text's letters, what can be undone, the images). Each part is asked of new objects
 * that were led to the same place, so that none is used for more than its 512 calls.
 */
final class Portrait {
    /** Calls that lead a new object to the place at which it is looked at. */
    interface Way {
        void lead(FollowedPeaks x);
    }

    static final String SCENE = "scene", WHICH = "which", SEEN = "seen", TEXT = "text", UNDO = "undo",
        IMAGE0 = "image 0", IMAGE1 = "image 1";

    // By each of these one track alone is what a stand has seen, so that another thing seen shows.
    private static final String[] SEEN_SHOWN_BY = {"frame 909;frame 909;frame 009;reach 0;",
        "frame900;frame090;".repeat(4), "frame 90909;frame 00900;frame 90000;"};

    private final Way way;
    private final StringBuilder answers = new StringBuilder();
    private final Map<String, String> parts = new LinkedHashMap<>();

    private Portrait(Way way) {
        this.way = way;
    }

    static Map<String, String> of(Way way) {
        Portrait portrait = new Portrait(way);
        portrait.askScene();
        portrait.askWhich();
        portrait.askSeen();
        portrait.askText();
        portrait.askUndo();
        portrait.askImage(0, IMAGE0);
        portrait.askImage(1, IMAGE1);
        return portrait.parts;
    }

    /** The names of the parts that are not alike. */
    static Set<String> unlike(Map<String, String> one, Map<String, String> other) {
        Set<String> names = new TreeSet<>();
        for (Map.Entry<String, String> part : one.entrySet()) {
            if (!part.getValue().equals(other.get(part.getKey()))) {
                names.add(part.getKey());
            }
        }
        return names;
    }

    private FollowedPeaks led() {
        FollowedPeaks x = new FollowedPeaks();
        way.lead(x);
        return x;
    }

    private void put(int answer) {
        answers.append(answer).append(' ');
    }

    private void endPart(String name) {
        parts.put(name, answers.toString());
        answers.setLength(0);
    }

    private void askScene() {
        FollowedPeaks x = led();
        putGlance(x);
        put(x.best(0));
        put(x.best(1));
        int frames = x.count(0);
        for (int f = 0; f < frames; f++) {
            putFrame(led(), f);
        }
        int tracks = x.count(5);
        for (int from = 0; from < tracks; from += 8) {
            putTracks(led(), from, Math.min(from + 8, tracks), frames);
        }
        endPart(SCENE);
    }

    /** All that part 1 of the document tells, but the text, and the numbers of tracks. */
    private void putGlance(FollowedPeaks x) {
        for (int what = 0; what <= 7; what++) {
            put(x.count(what));
        }
        for (int f = 0; f < x.count(0); f++) {
            for (int place = 0; place < x.count(1); place++) {
                put(x.level(f, place));
            }
        }
    }

    private void putFrame(FollowedPeaks x, int f) {
        for (int what = 0; what <= 4; what++) {
            put(x.frame(f, what));
            for (int k = 0; k < x.frame(f, 0); k++) {
                put(x.peak(f, k, what));
            }
        }
    }

    private void putTracks(FollowedPeaks x, int from, int end, int frames) {
        for (int n = from; n < end; n++) {
            for (int what = 0; what <= 7; what++) {
                put(x.track(n, what));
            }
            for (int f = 0; f < frames; f++) {
                put(x.pitch(n, f));
            }
        }
    }

    private void askWhich() {
        putWhich(led());
        endPart(WHICH);
    }

    private void putWhich(FollowedPeaks x) {
        put(x.which(0));
        put(x.which(1));
        put(x.listen());
    }

    private void askSeen() {
        FollowedPeaks x = led();
        put(x.count(8));
        put(x.forget());
        for (String text : SEEN_SHOWN_BY) {
            FollowedPeaks other = led();
            Checks.tell(other, text);
            putWhich(other);
        }
        endPart(SEEN);
    }

    private void askText() {
        FollowedPeaks x = led();
        put(x.count(9));
        putTold(x);
        put(x.count(9));
        // A text that lacks only its end shows its letters with it.
        FollowedPeaks ended = led();
        put(ended.type(';'));
        putTold(ended);
        put(led().clear());
        endPart(TEXT);
    }

    private void putTold(FollowedPeaks x) {
        int items = x.tells();
        put(items);
        if (items >= 0) {
            putGlance(x);
        }
    }

    private void askUndo() {
        put(led().count(10));
        for (int deep = 1; deep <= 7; deep++) {
            FollowedPeaks x = led();
            int left = 0;
            for (int i = 0; i < deep; i++) {
                left = x.undo();
            }
            put(left);
            if (left >= 0) {
                putGlance(x);
            }
        }
        endPart(UNDO);
    }

    private void askImage(int image, String name) {
        FollowedPeaks x = led();
        int frames = x.back(image);
        put(frames);
        if (frames >= 0) {
            putGlance(x);
        }
        endPart(name);
    }
}
