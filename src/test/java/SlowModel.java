import java.util.ArrayDeque;
import java.util.ArrayList;
import java.util.Arrays;
import java.util.Deque;
import java.util.HashMap;
import java.util.List;
import java.util.Map;
import java.util.regex.Matcher;
import java.util.regex.Pattern;

/**
 * The document said once more, in another and slower way (all ways to make pairs are tried, all is
 * found anew at each call), so that long runs of calls can be held against it.
 */
final class SlowModel {
    private static final int BAD = -1, STATE = -2, FULL = -3, NONE = -9, NO = -1000000;
    private static final Pattern TOKEN = Pattern.compile("[a-z]+|[0-9]+|[^ ]", Pattern.DOTALL);

    private record Scene(List<String> frames, int floor, int reach, int least) { }

    private record Peak(int place, int pitch, int loud) { }

    /** A track: the frame in which it is born, and its peaks' numbers. */
    private record Track(int born, List<Integer> peaks) {
        int end() {
            return born + peaks.size() - 1;
        }
    }

    private Scene now = new Scene(List.of("000"), 1, 4, 1);
    private String text = "";
    private final Deque<Scene> past = new ArrayDeque<>();
    private final Map<Integer, Scene> images = new HashMap<>();
    private final List<int[]> seen = new ArrayList<>();

    int type(int letter) {
        if (letter < 0 || letter > 255) return BAD;
        if (text.length() == 140) return FULL;
        text += (char) letter;
        return text.length();
    }

    int clear() {
        int had = text.length();
        text = "";
        return had;
    }

    int tells() {
        List<String> frames = new ArrayList<>();
        Map<String, Integer> told = new HashMap<>(Map.of("floor", 1, "reach", 4, "least", 1));
        Matcher m = TOKEN.matcher(text);
        int items = 0;
        int part = 0;
        String word = "";
        while (m.find()) {
            String token = m.group();
            boolean fits;
            if (part == 0) {
                word = token;
                fits = told.containsKey(word) || word.equals("frame") && frames.size() < 8;
            } else if (part == 1) {
                fits = word.equals("frame") ? isFrame(token, frames) : isN(token, word);
                if (fits && word.equals("frame")) frames.add(token);
                if (fits && !word.equals("frame")) told.put(word, Integer.parseInt(token));
            } else {
                fits = token.equals(";");
                items++;
            }
            if (!fits) return -10 - m.start();
            part = (part + 1) % 3;
        }
        if (part != 0 || frames.isEmpty()) return -10 - text.length();
        becomes(new Scene(frames, told.get("floor"), told.get("reach"), told.get("least")));
        text = "";
        return items;
    }

    private static boolean isFrame(String token, List<String> frames) {
        return token.matches("[0-9]{3,12}") && (frames.isEmpty() || frames.get(0).length() == token.length());
    }

    private static boolean isN(String token, String word) {
        switch (word) {
            case "floor": return token.matches("[1-9]");
            case "reach": return token.matches("[0-9]|1[0-9]|20");
            default: return token.matches("[1-8]");
        }
    }

    private void becomes(Scene next) {
        past.addLast(now);
        if (past.size() > 6) past.removeFirst();
        now = next;
    }

    int levels(int frame, int place, int level) {
        if (level(frame, place) == BAD || level < 0 || level > 9) return BAD;
        int was = level(frame, place);
        if (was == level) return STATE;
        List<String> frames = new ArrayList<>(now.frames);
        String row = frames.get(frame);
        frames.set(frame, row.substring(0, place) + level + row.substring(place + 1));
        becomes(new Scene(frames, now.floor, now.reach, now.least));
        return was;
    }

    int sets(int what, int n) {
        int was;
        Scene next;
        if (what == 0 && n >= 1 && n <= 9) {
            was = now.floor;
            next = new Scene(now.frames, n, now.reach, now.least);
        } else if (what == 1 && n >= 0 && n <= 20) {
            was = now.reach;
            next = new Scene(now.frames, now.floor, n, now.least);
        } else if (what == 2 && n >= 1 && n <= 8) {
            was = now.least;
            next = new Scene(now.frames, now.floor, now.reach, n);
        } else {
            return BAD;
        }
        if (was == n) return STATE;
        becomes(next);
        return was;
    }

    int undo() {
        if (past.isEmpty()) return STATE;
        now = past.removeLast();
        return past.size();
    }

    int level(int frame, int place) {
        if (frame < 0 || frame >= now.frames.size()) return BAD;
        String row = now.frames.get(frame);
        if (place < 0 || place >= row.length()) return BAD;
        return row.charAt(place) - '0';
    }

    int peak(int frame, int k, int what) {
        if (frame < 0 || frame >= now.frames.size() || k < 0 || what < 0 || what > 4) return NO;
        List<Peak> peaks = peaksOf(frame);
        if (k >= peaks.size()) return NONE;
        Peak peak = peaks.get(k);
        if (what == 0) return peak.place;
        if (what == 1) return peak.pitch;
        if (what == 2) return peak.loud;
        if (what == 3) return trackOf(frame, k);
        return frame + 1 < now.frames.size() ? joined(frame, now.reach)[k] : NONE;
    }

    int frame(int frame, int what) {
        if (frame < 0 || frame >= now.frames.size() || what < 0 || what > 4) return BAD;
        List<Peak> peaks = peaksOf(frame);
        if (what == 0) return peaks.size();
        List<Track> tracks = tracksBy(now.reach);
        if (what == 3) return (int) tracks.stream().filter(t -> t.born == frame).count();
        if (what == 4) return (int) tracks.stream().filter(t -> t.end() == frame).count();
        int together = 0;
        for (int k = 0; k < peaks.size(); k++) {
            boolean kept = tracks.get(trackOf(frame, k)).peaks.size() >= now.least;
            if (kept == (what == 1)) together += peaks.get(k).loud;
        }
        return together;
    }

    int track(int n, int what) {
        List<Track> tracks = tracksBy(now.reach);
        if (n < 0 || n >= tracks.size() || what < 0 || what > 7) return NO;
        Track track = tracks.get(n);
        int[] pitches = new int[track.peaks.size()];
        int loud = 0;
        for (int i = 0; i < pitches.length; i++) {
            Peak peak = peaksOf(track.born + i).get(track.peaks.get(i));
            pitches[i] = peak.pitch;
            loud += peak.loud;
        }
        int depth = Arrays.stream(pitches).max().getAsInt() - Arrays.stream(pitches).min().getAsInt();
        List<Integer> steps = new ArrayList<>();
        for (int i = 1; i < pitches.length; i++) {
            if (pitches[i] != pitches[i - 1]) steps.add(pitches[i] - pitches[i - 1]);
        }
        int turns = 0;
        for (int i = 1; i < steps.size(); i++) {
            if (steps.get(i) > 0 != steps.get(i - 1) > 0) turns++;
        }
        int kind = depth <= 1 ? 0 : turns == 0 ? 1 : turns >= steps.size() / 2.0 ? 2 : 3;
        int kept = pitches.length >= now.least ? 1 : 0;
        int worth = loud * (kind + 1) - depth;
        int[] answers = {track.born, pitches.length, kept, depth, turns, kind, worth, pitches[0]};
        return answers[what];
    }

    int pitch(int n, int frame) {
        List<Track> tracks = tracksBy(now.reach);
        if (n < 0 || n >= tracks.size() || frame < 0 || frame >= now.frames.size()) return NO;
        return pitchIn(tracks.get(n), frame);
    }

    int best(int what) {
        if (what < 0 || what > 1) return BAD;
        int bestReach = 0;
        for (int reach = 20; reach >= 0; reach--) {
            if (tracksBy(reach).size() == tracksBy(20).size()) bestReach = reach;
        }
        return what == 0 ? bestReach : tracksBy(bestReach).size();
    }

    int sees(int frame, int pitch) {
        if (frame < 0 || frame > 7 || pitch != NONE && (pitch < -1 || pitch > 45)) return BAD;
        if (seen.size() == 6) return FULL;
        seen.add(new int[] {frame, pitch});
        return seen.size();
    }

    int forget() {
        int had = seen.size();
        seen.clear();
        return had;
    }

    int which(int what) {
        if (what < 0 || what > 1) return BAD;
        List<Track> tracks = tracksBy(now.reach);
        List<Track> possible = possible(tracks);
        if (what == 0) return possible.size();
        return possible.isEmpty() ? NONE : tracks.indexOf(possible.get(0));
    }

    int listen() {
        List<Track> possible = possible(tracksBy(now.reach));
        if (possible.size() <= 1) return NONE;
        int found = NONE;
        long least = Long.MAX_VALUE;
        for (int f = 0; f < now.frames.size(); f++) {
            long most = 0;
            for (int pitch = NONE; pitch <= 45; pitch++) {
                int frame = f;
                int like = pitch;
                most = Math.max(most, possible.stream().filter(t -> pitchIn(t, frame) == like).count());
            }
            if (most < least) {
                least = most;
                found = f;
            }
        }
        return found;
    }

    int keep(int image) {
        if (image < 0 || image > 1) return BAD;
        images.put(image, now);
        return now.frames.size();
    }

    int back(int image) {
        if (image < 0 || image > 1) return BAD;
        if (!images.containsKey(image)) return STATE;
        now = images.get(image);
        past.clear();
        return now.frames.size();
    }

    int count(int what) {
        if (what < 0 || what > 10) return BAD;
        List<Track> tracks = tracksBy(now.reach);
        int most = tracks.stream().mapToInt(t -> t.peaks.size()).max().orElse(0);
        int longest = NONE;
        for (int n = tracks.size() - 1; n >= 0; n--) {
            if (tracks.get(n).peaks.size() == most) longest = n;
        }
        int kept = (int) tracks.stream().filter(t -> t.peaks.size() >= now.least).count();
        int[] answers = {now.frames.size(), now.frames.get(0).length(), now.floor, now.reach, now.least,
            tracks.size(), kept, longest, seen.size(), text.length(), past.size()};
        return answers[what];
    }

    private List<Peak> peaksOf(int frame) {
        String row = "0" + now.frames.get(frame) + "0";
        List<Peak> peaks = new ArrayList<>();
        for (int i = 1; i < row.length() - 1; i++) {
            int below = row.charAt(i - 1) - '0';
            int here = row.charAt(i) - '0';
            int above = row.charAt(i + 1) - '0';
            if (here >= now.floor && here > below && here >= above) {
                int quarter = above > below ? 1 : above < below ? -1 : 0;
                peaks.add(new Peak(i - 1, 4 * (i - 1) + quarter, here));
            }
        }
        return peaks;
    }

    /** All ways, those that pair the lowest peaks with the lowest first; the first of the best. */
    private int[] joined(int frame, int reach) {
        List<int[]> ways = new ArrayList<>();
        List<Peak> first = peaksOf(frame);
        List<Peak> second = peaksOf(frame + 1);
        addWays(first, second, reach, new int[first.size()], 0, 0, ways);
        int[] best = null;
        for (int[] way : ways) {
            if (best == null || isBetter(way, best, first, second)) best = way;
        }
        return best;
    }

    private static void addWays(List<Peak> first, List<Peak> second, int reach, int[] way, int i, int from,
            List<int[]> ways) {
        if (i == first.size()) {
            ways.add(way.clone());
            return;
        }
        for (int j = from; j < second.size(); j++) {
            if (Math.abs(first.get(i).pitch - second.get(j).pitch) <= reach) {
                way[i] = j;
                addWays(first, second, reach, way, i + 1, j + 1, ways);
            }
        }
        way[i] = NONE;
        addWays(first, second, reach, way, i + 1, from, ways);
    }

    private static boolean isBetter(int[] way, int[] than, List<Peak> first, List<Peak> second) {
        int[] a = pairsAndApart(way, first, second);
        int[] b = pairsAndApart(than, first, second);
        return a[0] > b[0] || a[0] == b[0] && a[1] < b[1];
    }

    private static int[] pairsAndApart(int[] way, List<Peak> first, List<Peak> second) {
        int[] sum = new int[2];
        for (int i = 0; i < way.length; i++) {
            if (way[i] != NONE) {
                sum[0]++;
                sum[1] += Math.abs(first.get(i).pitch - second.get(way[i]).pitch);
            }
        }
        return sum;
    }

    private final Map<List<Object>, List<Track>> found = new HashMap<>();

    private List<Track> tracksBy(int reach) {
        return found.computeIfAbsent(List.of(now.frames, now.floor, reach), key -> findTracks(reach));
    }

    private List<Track> findTracks(int reach) {
        List<Track> tracks = new ArrayList<>();
        for (int f = 0; f < now.frames.size(); f++) {
            int[] way = f == 0 ? new int[0] : joined(f - 1, reach);
            for (int k = 0; k < peaksOf(f).size(); k++) {
                int number = k;
                if (Arrays.stream(way).noneMatch(j -> j == number)) {
                    tracks.add(new Track(f, followFrom(f, k, reach)));
                }
            }
        }
        return tracks;
    }

    private List<Integer> followFrom(int frame, int k, int reach) {
        List<Integer> peaks = new ArrayList<>();
        int at = k;
        for (int f = frame; at != NONE; f++) {
            peaks.add(at);
            at = f + 1 < now.frames.size() ? joined(f, reach)[at] : NONE;
        }
        return peaks;
    }

    private int trackOf(int frame, int k) {
        List<Track> tracks = tracksBy(now.reach);
        for (int n = 0; n < tracks.size(); n++) {
            Track t = tracks.get(n);
            if (t.born <= frame && frame <= t.end() && t.peaks.get(frame - t.born) == k) return n;
        }
        return NONE;
    }

    private int pitchIn(Track t, int frame) {
        return t.born <= frame && frame <= t.end() ? peaksOf(frame).get(t.peaks.get(frame - t.born)).pitch : NONE;
    }

    private List<Track> possible(List<Track> tracks) {
        return tracks.stream().filter(t -> seen.stream().allMatch(s -> pitchIn(t, s[0]) == s[1])).toList();
    }
}
