import java.util.Arrays;

/** Peaks of frames, followed from frame to frame; README.md says how to use it. */
public final class FollowedPeaks {
    public static final int BAD = -1, STATE = -2, FULL = -3, NONE = -9;
    public static final int NO = -1000000;

    private static final int FRAMES_MOST = 8;
    private static final int PLACES_LEAST = 3;
    private static final int PLACES_MOST = 12;
    private static final int LEVEL_MOST = 9;
    // Of two neighbouring places one at most is a PEAK.
    private static final int PEAKS_MOST = 6;
    private static final int TRACKS_MOST = 48;
    private static final int PITCH_LEAST = -1;
    private static final int PITCH_MOST = 45;

    private static final int FLOOR = 0;
    private static final int REACH = 1;
    private static final int LEAST = 2;
    private static final int SETTINGS = 3;
    private static final int[] SETTING_LOWEST = {1, 0, 1};
    private static final int[] SETTING_HIGHEST = {9, 20, 8};
    private static final int[] SETTING_AT_FIRST = {1, 4, 1};

    private static final int LETTER_MOST = 255;
    private static final int TEXT_MOST = 140;
    private static final int FAULT_AT_START = -10;
    private static final int KNOWN_MOST = 6;
    private static final int SEEN_MOST = 6;
    private static final int IMAGES = 2;

    private final Scene scene = new Scene();
    private final Scene draft = new Scene();
    private final Text text = new Text();
    private final History history = new History();
    private final Scene[] images = new Scene[IMAGES];
    private final boolean[] imageKept = new boolean[IMAGES];
    private final Peaks peaks = new Peaks();
    private final Joiner joiner = new Joiner();
    private final Tracks tracks = new Tracks();
    private final Seen seen = new Seen();
    // NONE until it is asked.
    private int bestReach = NONE;
    private int fewestTracks;

    public FollowedPeaks() {
        for (int i = 0; i < IMAGES; i++) {
            images[i] = new Scene();
        }
        scene.makeFirst();
        followAnew();
    }

    // ---- what is told

    public int type(int letter) {
        if (letter < 0 || letter > LETTER_MOST) {
            return BAD;
        }
        if (text.length >= TEXT_MOST) {
            return FULL;
        }
        text.append((char) letter);
        return text.length;
    }

    public int clear() {
        int had = text.length;
        text.length = 0;
        return had;
    }

    public int tells() {
        int items = text.readAll(draft);
        if (items < 0) {
            return items;
        }
        history.remember(scene);
        scene.takeFrom(draft);
        text.length = 0;
        followAnew();
        return items;
    }

    // ---- what is done

    public int levels(int frame, int place, int level) {
        if (!scene.hasPlace(frame, place) || level < 0 || level > LEVEL_MOST) {
            return BAD;
        }
        int was = scene.levelAt(frame, place);
        if (was == level) {
            return STATE;
        }
        history.remember(scene);
        scene.putLevel(frame, place, level);
        followAnew();
        return was;
    }

    public int sets(int what, int n) {
        if (!isSetting(what, n)) {
            return BAD;
        }
        int was = scene.settings[what];
        if (was == n) {
            return STATE;
        }
        history.remember(scene);
        scene.settings[what] = n;
        followAnew();
        return was;
    }

    public int undo() {
        if (history.known == 0) {
            return STATE;
        }
        history.giveLatest(scene);
        followAnew();
        return history.known;
    }

    // ---- asked

    public int level(int frame, int place) {
        return scene.hasPlace(frame, place) ? scene.levelAt(frame, place) : BAD;
    }

    public int peak(int frame, int k, int what) {
        if (!scene.hasFrame(frame) || k < 0 || what < 0 || what > 4) {
            return NO;
        }
        if (k >= peaks.many[frame]) {
            return NONE;
        }
        int at = frame * PEAKS_MOST + k;
        switch (what) {
            case 0: return peaks.places[at];
            case 1: return peaks.pitches[at];
            case 2: return peaks.louds[at];
            case 3: return tracks.ofPeak[at];
            default: return tracks.nextPeak[at];
        }
    }

    public int frame(int frame, int what) {
        if (!scene.hasFrame(frame)) {
            return BAD;
        }
        switch (what) {
            case 0: return peaks.many[frame];
            case 1: return loudTogether(frame, true);
            case 2: return loudTogether(frame, false);
            case 3: return tracks.bornIn(frame);
            case 4: return tracks.endingIn(frame);
            default: return BAD;
        }
    }

    public int track(int n, int what) {
        if (n < 0 || n >= tracks.many) {
            return NO;
        }
        switch (what) {
            case 0: return tracks.born[n];
            case 1: return tracks.lengths[n];
            case 2: return isKept(n) ? 1 : 0;
            case 3: return tracks.depths[n];
            case 4: return tracks.turns[n];
            case 5: return tracks.kinds[n];
            case 6: return tracks.worthOf(n);
            case 7: return tracks.pitchIn(n, tracks.born[n]);
            default: return NO;
        }
    }

    public int pitch(int n, int frame) {
        if (n < 0 || n >= tracks.many || !scene.hasFrame(frame)) {
            return NO;
        }
        return tracks.pitchIn(n, frame);
    }

    public int best(int what) {
        if (what < 0 || what > 1) {
            return BAD;
        }
        // All reaches are tried once for each scene, however often it is asked.
        if (bestReach == NONE) {
            fewestTracks = TRACKS_MOST + 1;
            for (int reach = SETTING_LOWEST[REACH]; reach <= SETTING_HIGHEST[REACH]; reach++) {
                int many = tracksByReach(reach);
                if (many < fewestTracks) {
                    fewestTracks = many;
                    bestReach = reach;
                }
            }
        }
        return what == 0 ? bestReach : fewestTracks;
    }

    // ---- which track

    public int sees(int frame, int pitch) {
        boolean isPitch = pitch >= PITCH_LEAST && pitch <= PITCH_MOST;
        if (frame < 0 || frame >= FRAMES_MOST || !isPitch && pitch != NONE) {
            return BAD;
        }
        if (seen.many >= SEEN_MOST) {
            return FULL;
        }
        seen.append(frame, pitch);
        return seen.many;
    }

    public int forget() {
        int had = seen.many;
        seen.many = 0;
        return had;
    }

    public int which(int what) {
        if (what < 0 || what > 1) {
            return BAD;
        }
        seen.gather(tracks);
        if (what == 0) {
            return seen.possible;
        }
        return seen.possible > 0 ? seen.candidates[0] : NONE;
    }

    public int listen() {
        seen.gather(tracks);
        if (seen.possible <= 1) {
            return NONE;
        }
        int bestFrame = 0;
        int least = seen.mostAlike(tracks, 0);
        for (int f = 1; f < scene.frames; f++) {
            int alike = seen.mostAlike(tracks, f);
            if (alike < least) {
                least = alike;
                bestFrame = f;
            }
        }
        return bestFrame;
    }

    // ---- images

    public int keep(int image) {
        if (image < 0 || image >= IMAGES) {
            return BAD;
        }
        images[image].takeFrom(scene);
        imageKept[image] = true;
        return scene.frames;
    }

    public int back(int image) {
        if (image < 0 || image >= IMAGES) {
            return BAD;
        }
        if (!imageKept[image]) {
            return STATE;
        }
        scene.takeFrom(images[image]);
        history.known = 0;
        followAnew();
        return scene.frames;
    }

    public int count(int what) {
        switch (what) {
            case 0: return scene.frames;
            case 1: return scene.places;
            case 2: return scene.settings[FLOOR];
            case 3: return scene.settings[REACH];
            case 4: return scene.settings[LEAST];
            case 5: return tracks.many;
            case 6: return keptTracks();
            case 7: return tracks.longest();
            case 8: return seen.many;
            case 9: return text.length;
            case 10: return history.known;
            default: return BAD;
        }
    }

    // ---- helpers of the calls

    private void followAnew() {
        peaks.find(scene);
        tracks.follow(peaks, joiner, scene.settings[REACH]);
        bestReach = NONE;
    }

    private static boolean isSetting(int what, int n) {
        return what >= 0 && what < SETTINGS
            && n >= SETTING_LOWEST[what] && n <= SETTING_HIGHEST[what];
    }

    private boolean isKept(int n) {
        return n >= 0 && n < tracks.many && tracks.lengths[n] >= scene.settings[LEAST];
    }

    private int keptTracks() {
        int kept = 0;
        for (int n = 0; n < tracks.many; n++) {
            if (isKept(n)) {
                kept++;
            }
        }
        return kept;
    }

    private int loudTogether(int frame, boolean ofKept) {
        int together = 0;
        for (int k = 0; k < peaks.many[frame]; k++) {
            int at = frame * PEAKS_MOST + k;
            if (isKept(tracks.ofPeak[at]) == ofKept) {
                together += peaks.louds[at];
            }
        }
        return together;
    }

    /** Each pair joins two tracks to one: the tracks are the peaks less the pairs. */
    private int tracksByReach(int reach) {
        int many = 0;
        for (int f = 0; f < FRAMES_MOST; f++) {
            many += peaks.many[f] - joiner.join(peaks, f, reach);
        }
        return many;
    }

    /** All that part 1 of the document tells, but the text. */
    private static final class Scene {
        int frames;
        int places;
        final int[] settings = new int[SETTINGS];
        private final int[] levels = new int[FRAMES_MOST * PLACES_MOST];

        void makeFirst() {
            makeEmpty();
            frames = 1;
            places = PLACES_LEAST;
        }

        /** What a text begins with: no frame yet, all else as at first. */
        void makeEmpty() {
            frames = 0;
            places = 0;
            System.arraycopy(SETTING_AT_FIRST, 0, settings, 0, SETTINGS);
            Arrays.fill(levels, 0);
        }

        void takeFrom(Scene other) {
            frames = other.frames;
            places = other.places;
            System.arraycopy(other.settings, 0, settings, 0, SETTINGS);
            System.arraycopy(other.levels, 0, levels, 0, FRAMES_MOST * PLACES_MOST);
        }

        boolean hasFrame(int f) {
            return f >= 0 && f < frames;
        }

        boolean hasPlace(int f, int place) {
            return hasFrame(f) && place >= 0 && place < places;
        }

        /** 0 where there is no such place, as peaks at the edges want it. */
        int levelAt(int f, int place) {
            return hasPlace(f, place) ? levels[f * PLACES_MOST + place] : 0;
        }

        void putLevel(int f, int place, int n) {
            if (hasPlace(f, place)) {
                levels[f * PLACES_MOST + place] = n;
            }
        }
    }

    /** The scenes ahead of the latest changes, the oldest first. */
    private static final class History {
        int known;
        private final Scene[] past = new Scene[KNOWN_MOST];

        History() {
            for (int i = 0; i < KNOWN_MOST; i++) {
                past[i] = new Scene();
            }
        }

        void remember(Scene now) {
            if (known >= KNOWN_MOST) {
                loseOldest();
            }
            past[known].takeFrom(now);
            known++;
        }

        void giveLatest(Scene now) {
            if (known > 0) {
                known--;
                now.takeFrom(past[known]);
            }
        }

        private void loseOldest() {
            // The oldest scene's room is used again for the next one.
            Scene oldest = past[0];
            for (int i = 1; i < KNOWN_MOST; i++) {
                past[i - 1] = past[i];
            }
            past[KNOWN_MOST - 1] = oldest;
            known = KNOWN_MOST - 1;
        }
    }

    /** The text, and the reading of it, token by token, into a scene. */
    private static final class Text {
        private static final int END = 0;
        private static final int WORD = 1;
        private static final int FIGURES = 2;
        private static final int STOP = 3;
        private static final int OTHER = 4;

        int length;
        private final char[] letters = new char[TEXT_MOST];
        // The token that is being looked at.
        private int kind;
        private int start;
        private int end;

        void append(char letter) {
            if (length < TEXT_MOST) {
                letters[length] = letter;
                length++;
            }
        }

        /** How many items there are, or -10 less the fault. */
        int readAll(Scene into) {
            into.makeEmpty();
            end = 0;
            int items = 0;
            for (int turn = 0; turn < TEXT_MOST; turn++) {
                nextToken();
                if (kind == END && into.frames > 0) {
                    return items;
                }
                if (!readItem(into)) {
                    return FAULT_AT_START - start;
                }
                items++;
            }
            return FAULT_AT_START - start;
        }

        /** Stops at the token that can't stand there, if there is one. */
        private boolean readItem(Scene into) {
            if (isWord("frame")) {
                if (into.frames >= FRAMES_MOST) {
                    return false;
                }
                nextToken();
                if (!readFrame(into)) {
                    return false;
                }
            } else {
                int setting = namedSetting();
                if (setting == NONE) {
                    return false;
                }
                nextToken();
                if (!readSetting(into, setting)) {
                    return false;
                }
            }
            nextToken();
            return kind == STOP;
        }

        private boolean readFrame(Scene into) {
            int many = end - start;
            if (kind != FIGURES || many < PLACES_LEAST || many > PLACES_MOST) {
                return false;
            }
            if (into.frames > 0 && many != into.places) {
                return false;
            }
            into.places = many;
            into.frames++;
            for (int place = 0; place < many; place++) {
                into.putLevel(into.frames - 1, place, figureAt(start + place));
            }
            return true;
        }

        private boolean readSetting(Scene into, int setting) {
            int many = end - start;
            if (kind != FIGURES || many > 2) {
                return false;
            }
            int n = figureAt(start);
            if (many == 2) {
                if (n == 0) {
                    return false;
                }
                n = 10 * n + figureAt(start + 1);
            }
            if (!isSetting(setting, n)) {
                return false;
            }
            into.settings[setting] = n;
            return true;
        }

        private int namedSetting() {
            if (isWord("floor")) {
                return FLOOR;
            }
            if (isWord("reach")) {
                return REACH;
            }
            return isWord("least") ? LEAST : NONE;
        }

        /** At the text's end the token is empty and stands at its length. */
        private void nextToken() {
            int at = end;
            while (at < length && letters[at] == ' ') {
                at++;
            }
            start = at;
            kind = kindAt(at);
            if (kind != END) {
                at++;
            }
            if (kind == WORD || kind == FIGURES) {
                while (at < length && kindAt(at) == kind) {
                    at++;
                }
            }
            end = at;
        }

        private int kindAt(int at) {
            if (at < 0 || at >= length) {
                return END;
            }
            char letter = letters[at];
            if (letter >= 'a' && letter <= 'z') {
                return WORD;
            }
            if (letter >= '0' && letter <= '9') {
                return FIGURES;
            }
            return letter == ';' ? STOP : OTHER;
        }

        private int figureAt(int at) {
            return kindAt(at) == FIGURES ? letters[at] - '0' : 0;
        }

        private boolean isWord(String word) {
            if (kind != WORD || end - start != word.length()) {
                return false;
            }
            for (int i = 0; i < word.length(); i++) {
                if (letters[start + i] != word.charAt(i)) {
                    return false;
                }
            }
            return true;
        }
    }

    /** The peaks of all frames; the k-th of frame f stands at f * PEAKS_MOST + k. */
    private static final class Peaks {
        final int[] many = new int[FRAMES_MOST];
        final int[] places = new int[TRACKS_MOST];
        final int[] pitches = new int[TRACKS_MOST];
        final int[] louds = new int[TRACKS_MOST];

        /** A frame that is not there has no peaks. */
        void find(Scene scene) {
            for (int f = 0; f < FRAMES_MOST; f++) {
                many[f] = 0;
                for (int place = 0; place < scene.places; place++) {
                    lookAt(scene, f, place);
                }
            }
        }

        private void lookAt(Scene scene, int f, int place) {
            int here = scene.levelAt(f, place);
            int below = scene.levelAt(f, place - 1);
            int above = scene.levelAt(f, place + 1);
            boolean isPeak = here >= scene.settings[FLOOR] && here > below && here >= above;
            if (isPeak && many[f] < PEAKS_MOST) {
                int at = f * PEAKS_MOST + many[f];
                places[at] = place;
                pitches[at] = 4 * place + Integer.compare(above, below);
                louds[at] = here;
                many[f]++;
            }
        }
    }

    /** Pairs the peaks of a frame with those of the next one. */
    private static final class Joiner {
        // More than all pairs of two frames can be apart, so that pairs count first.
        private static final int PAIR = 1000;
        private static final int SIDE = PEAKS_MOST + 1;

        /** By peak of the first frame: the peak of the second, or NONE. */
        final int[] mates = new int[PEAKS_MOST];
        private final int[] firstPitches = new int[PEAKS_MOST];
        private final int[] secondPitches = new int[PEAKS_MOST];
        // At i * SIDE + j: the best score of the peaks i on with the peaks j on.
        private final int[] scores = new int[SIDE * SIDE];
        private int first;
        private int second;
        private int reach;

        /** How many pairs there are. */
        int join(Peaks peaks, int f, int withReach) {
            reach = withReach;
            first = copyPitches(peaks, f, firstPitches);
            second = copyPitches(peaks, f + 1, secondPitches);
            scoreAll();
            return chooseMates();
        }

        private static int copyPitches(Peaks peaks, int f, int[] into) {
            if (f < 0 || f >= FRAMES_MOST) {
                return 0;
            }
            int many = peaks.many[f];
            System.arraycopy(peaks.pitches, f * PEAKS_MOST, into, 0, many);
            return many;
        }

        private void scoreAll() {
            Arrays.fill(scores, 0);
            for (int i = first - 1; i >= 0; i--) {
                for (int j = second - 1; j >= 0; j--) {
                    int unpaired = Math.max(scores[(i + 1) * SIDE + j], scores[i * SIDE + j + 1]);
                    scores[i * SIDE + j] = Math.max(unpaired, pairedScore(i, j));
                }
            }
        }

        /** The best score with i and j as a pair; -1, which no score is, if they can't be. */
        private int pairedScore(int i, int j) {
            int apart = Math.abs(firstPitches[i] - secondPitches[j]);
            return apart > reach ? -1 : PAIR - apart + scores[(i + 1) * SIDE + j + 1];
        }

        private int chooseMates() {
            Arrays.fill(mates, NONE);
            int pairs = 0;
            int from = 0;
            for (int i = 0; i < first; i++) {
                int mate = lowestMate(i, from);
                if (mate != NONE) {
                    mates[i] = mate;
                    from = mate + 1;
                    pairs++;
                }
            }
            return pairs;
        }

        private int lowestMate(int i, int from) {
            for (int j = from; j < second; j++) {
                if (pairedScore(i, j) == scores[i * SIDE + from]) {
                    return j;
                }
            }
            return NONE;
        }
    }

    /** The tracks of the scene and what is asked of them. */
    private static final class Tracks {
        private static final int STEADY = 0;
        private static final int GLIDE = 1;
        private static final int VIBRATO = 2;
        private static final int UNLIKE = 3;

        int many;
        final int[] born = new int[TRACKS_MOST];
        final int[] lengths = new int[TRACKS_MOST];
        final int[] depths = new int[TRACKS_MOST];
        final int[] turns = new int[TRACKS_MOST];
        final int[] kinds = new int[TRACKS_MOST];
        private final int[] louds = new int[TRACKS_MOST];
        private final int[] pitches = new int[TRACKS_MOST * FRAMES_MOST];
        // By peak, as Peaks has them.
        final int[] ofPeak = new int[TRACKS_MOST];
        final int[] nextPeak = new int[TRACKS_MOST];

        void follow(Peaks peaks, Joiner joiner, int reach) {
            many = 0;
            Arrays.fill(pitches, NONE);
            Arrays.fill(ofPeak, NONE);
            for (int f = 0; f < FRAMES_MOST; f++) {
                joiner.join(peaks, f, reach);
                for (int k = 0; k < peaks.many[f]; k++) {
                    int at = f * PEAKS_MOST + k;
                    if (ofPeak[at] == NONE) {
                        begin(at, f);
                    }
                    nextPeak[at] = joiner.mates[k];
                    addPeak(peaks, at, f);
                }
            }
            for (int n = 0; n < many; n++) {
                measure(n);
            }
        }

        private void begin(int at, int f) {
            if (many < TRACKS_MOST) {
                ofPeak[at] = many;
                born[many] = f;
                lengths[many] = 0;
                louds[many] = 0;
                many++;
            }
        }

        private void addPeak(Peaks peaks, int at, int f) {
            int n = ofPeak[at];
            if (n < 0 || n >= many) {
                return;
            }
            lengths[n]++;
            louds[n] += peaks.louds[at];
            pitches[n * FRAMES_MOST + f] = peaks.pitches[at];
            if (nextPeak[at] != NONE && f + 1 < FRAMES_MOST) {
                ofPeak[(f + 1) * PEAKS_MOST + nextPeak[at]] = n;
            }
        }

        private void measure(int n) {
            int here = pitchIn(n, born[n]);
            int lowest = here;
            int highest = here;
            int moves = 0;
            int lastWay = 0;
            turns[n] = 0;
            for (int f = born[n] + 1; f < born[n] + lengths[n]; f++) {
                int way = Integer.compare(pitchIn(n, f), here);
                here = pitchIn(n, f);
                lowest = Math.min(lowest, here);
                highest = Math.max(highest, here);
                if (way != 0) {
                    moves++;
                    if (lastWay == -way) {
                        turns[n]++;
                    }
                    lastWay = way;
                }
            }
            depths[n] = highest - lowest;
            kinds[n] = kindBy(depths[n], turns[n], moves);
        }

        private static int kindBy(int depth, int turned, int moves) {
            if (depth <= 1) {
                return STEADY;
            }
            if (turned == 0) {
                return GLIDE;
            }
            return 2 * turned >= moves ? VIBRATO : UNLIKE;
        }

        int worthOf(int n) {
            return louds[n] * (kinds[n] + 1) - depths[n];
        }

        /** NONE where the track has no peak, and where there is no such frame. */
        int pitchIn(int n, int f) {
            if (n < 0 || n >= many || f < 0 || f >= FRAMES_MOST) {
                return NONE;
            }
            return pitches[n * FRAMES_MOST + f];
        }

        int bornIn(int f) {
            int found = 0;
            for (int n = 0; n < many; n++) {
                if (born[n] == f) {
                    found++;
                }
            }
            return found;
        }

        int endingIn(int f) {
            int found = 0;
            for (int n = 0; n < many; n++) {
                if (born[n] + lengths[n] - 1 == f) {
                    found++;
                }
            }
            return found;
        }

        int longest() {
            int found = NONE;
            int most = 0;
            for (int n = 0; n < many; n++) {
                if (lengths[n] > most) {
                    most = lengths[n];
                    found = n;
                }
            }
            return found;
        }
    }

    /** What was seen of an unknown track, and the tracks that it can be. */
    private static final class Seen {
        private static final int TALLIES = PITCH_MOST - NONE + 1;

        int many;
        private final int[] frames = new int[SEEN_MOST];
        private final int[] pitches = new int[SEEN_MOST];
        int possible;
        final int[] candidates = new int[TRACKS_MOST];
        // By pitch less NONE, so that NONE has its tally too.
        private final int[] tallies = new int[TALLIES];

        void append(int f, int heard) {
            if (many < SEEN_MOST) {
                frames[many] = f;
                pitches[many] = heard;
                many++;
            }
        }

        void gather(Tracks tracks) {
            possible = 0;
            for (int n = 0; n < tracks.many; n++) {
                if (fits(tracks, n)) {
                    candidates[possible] = n;
                    possible++;
                }
            }
        }

        private boolean fits(Tracks tracks, int n) {
            for (int i = 0; i < many; i++) {
                if (tracks.pitchIn(n, frames[i]) != pitches[i]) {
                    return false;
                }
            }
            return true;
        }

        /** The greatest number of candidates that are alike in a frame. */
        int mostAlike(Tracks tracks, int f) {
            Arrays.fill(tallies, 0);
            int most = 0;
            for (int i = 0; i < possible; i++) {
                int tally = tracks.pitchIn(candidates[i], f) - NONE;
                if (tally >= 0 && tally < TALLIES) {
                    tallies[tally]++;
                    most = Math.max(most, tallies[tally]);
                }
            }
            return most;
        }
    }
}
