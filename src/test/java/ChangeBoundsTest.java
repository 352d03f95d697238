import java.util.ArrayList;
import java.util.List;
import java.util.Map;

/** The boundary cases of what is done and undone: promises 5 to 7. */
public final class ChangeBoundsTest {
    private static final int BAD = Bounds.BAD, STATE = Bounds.STATE;
    private static final Checks CHECKS = new Checks("ChangeBoundsTest");
    private static final Bounds BOUNDS = new Bounds(CHECKS);
    private static final int[] LOWEST = {1, 0, 1};
    private static final int[] HIGHEST = {9, 20, 8};
    private static final int[] AT_FIRST = {1, 4, 1};
    private static final String[] CHANGED = {Portrait.SCENE, Portrait.UNDO, Portrait.WHICH};

    public static void main(String[] args) {
        levelsOfFramesThatAreThere();
        levelsOfPlacesThatAreThere();
        levelsAre0To9();
        aLevelThatItIs();
        badAheadOfStateInLevels();
        levelsOfEachSize();
        levelsChangeOnePlaceAlone();
        settingsAreThree();
        settingsHaveTheirLimits();
        aSettingThatItIs();
        settingsChangeOneAlone();
        nothingToUndo();
        sixAreKnown();
        theSeventhLosesTheOldest();
        eachOfTheThreeIsUndone();
        refusedCallsAreNotKnown();
        otherCallsAreNotKnown();
        undoneIsNotKnownAgain();
        undoLeavesTextSeenAndImages();
        undoOfTheLargestScenes();
        CHECKS.end();
    }

    private static void due(String call, long got, long want) {
        CHECKS.due(call, got, want);
    }

    private static void refusedLevels(Stand stand, int frame, int place, int level, int want) {
        BOUNDS.refused(stand, "levels(" + frame + ", " + place + ", " + level + ")",
            x -> x.levels(frame, place, level), want);
    }

    private static void refusedSets(int what, int n, int want) {
        BOUNDS.refusedEverywhere("sets(" + what + ", " + n + ")", x -> x.sets(what, n), want);
    }

    /** "The LEVEL at a place of a FRAME is another .. BAD": frames 0 to the last. */
    private static void levelsOfFramesThatAreThere() {
        for (Stand stand : Stand.values()) {
            int frames = stand.object().count(0);
            refusedLevels(stand, -1, 0, 7, BAD);
            refusedLevels(stand, frames, 0, 7, BAD);
            refusedLevels(stand, 8, 0, 7, BAD);
            for (int far : Bounds.FAR) {
                refusedLevels(stand, far, 0, 7, BAD);
            }
            due(stand + ": levels in frame 0", stand.object().levels(0, 1, 7), stand.object().level(0, 1));
            due(stand + ": levels in the last frame", stand.object().levels(frames - 1, 1, 7),
                stand.object().level(frames - 1, 1));
        }
    }

    /** "at places 0 to B less 1" */
    private static void levelsOfPlacesThatAreThere() {
        for (Stand stand : Stand.values()) {
            int last = stand.object().count(0) - 1;
            int places = stand.object().count(1);
            for (int frame = 0; frame <= last; frame++) {
                refusedLevels(stand, frame, -1, 7, BAD);
                refusedLevels(stand, frame, places, 7, BAD);
                refusedLevels(stand, frame, 12, 7, BAD);
            }
            for (int far : Bounds.FAR) {
                refusedLevels(stand, last, far, 7, BAD);
            }
            due(stand + ": levels at place 0", stand.object().levels(last, 0, 7), stand.object().level(last, 0));
            due(stand + ": levels at the last place", stand.object().levels(last, places - 1, 7),
                stand.object().level(last, places - 1));
        }
    }

    /** "LEVELS 0 to 9": from each to each. */
    private static void levelsAre0To9() {
        for (Stand stand : Stand.values()) {
            refusedLevels(stand, 0, 0, -1, BAD);
            refusedLevels(stand, 0, 0, 10, BAD);
            for (int far : Bounds.FAR) {
                refusedLevels(stand, 0, 0, far, BAD);
            }
        }
        for (int was = 0; was <= 9; was++) {
            for (int level = -3; level <= 13; level++) {
                FollowedPeaks x = Checks.told("frame 0" + was + "0;");
                boolean isLevel = level >= 0 && level <= 9;
                int want = !isLevel ? BAD : level == was ? STATE : was;
                due("levels(0, 1, " + level + ") of " + was, x.levels(0, 1, level), want);
                due("level(0, 1) behind it", x.level(0, 1), isLevel ? level : was);
                due("count(10) behind it", x.count(10), want >= 0 ? 2 : 1);
            }
        }
    }

    /** "STATE: it is that." At each place of each stand. */
    private static void aLevelThatItIs() {
        for (Stand stand : Stand.values()) {
            FollowedPeaks x = stand.object();
            for (int f = 0; f < x.count(0); f++) {
                for (int place = 0; place < x.count(1); place++) {
                    refusedLevels(stand, f, place, x.level(f, place), STATE);
                }
            }
        }
    }

    /** "the first of these that is so: BAD, STATE": a place that is not there has no level 0. */
    private static void badAheadOfStateInLevels() {
        refusedLevels(Stand.NEW, 1, 0, 0, BAD);
        refusedLevels(Stand.NEW, 0, 3, 0, BAD);
        refusedLevels(Stand.NEW, 0, -1, 0, BAD);
        refusedLevels(Stand.IN_USE, 3, 0, 0, BAD);
        refusedLevels(Stand.IN_USE, 0, 4, 0, BAD);
        refusedLevels(Stand.FULL, 8, 0, 0, BAD);
        refusedLevels(Stand.FULL, 0, 11, 0, BAD);
    }

    /** "(8 at most ..), each a row of as many LEVELS .. (B of them: 3 to 12" */
    private static void levelsOfEachSize() {
        for (int frames = 1; frames <= 8; frames++) {
            for (int places = 3; places <= (frames == 8 ? 11 : 12); places++) {
                FollowedPeaks x = Checks.told(("frame" + "0".repeat(places) + ";").repeat(frames));
                String size = frames + " frames of " + places;
                due(size + ": the last place", x.levels(frames - 1, places - 1, 9), 0);
                due(size + ": its level", x.level(frames - 1, places - 1), 9);
                due(size + ": the place behind it", x.levels(frames - 1, places, 9), BAD);
                due(size + ": the frame behind it", x.levels(frames, places - 1, 9), BAD);
                due(size + ": no level there", x.level(frames - 1, places), BAD);
                due(size + ": no frame there", x.level(frames, places - 1), BAD);
                due(size + ": done", x.count(10), 2);
            }
        }
    }

    private static void levelsChangeOnePlaceAlone() {
        for (Stand stand : Stand.values()) {
            FollowedPeaks asked = stand.object();
            int was = asked.level(0, 0);
            BOUNDS.changesOnly(stand, "levels(0, 0, 6)", x -> x.levels(0, 0, 6), was, CHANGED);
            BOUNDS.changesAll(stand, "levels(0, 0, 6)", x -> x.levels(0, 0, 6), Portrait.SCENE, Portrait.UNDO);
        }
        FollowedPeaks x = Checks.told("frame 0123;frame 4567;frame 8901;");
        x.levels(1, 2, 0);
        int[][] want = {{0, 1, 2, 3}, {4, 5, 0, 7}, {8, 9, 0, 1}};
        for (int f = 0; f < 3; f++) {
            for (int place = 0; place < 4; place++) {
                due("level(" + f + ", " + place + ")", x.level(f, place), want[f][place]);
            }
        }
        int[] counts = {3, 4, 1, 4, 1};
        for (int what = 0; what < counts.length; what++) {
            due("count(" + what + ")", x.count(what), counts[what]);
        }
    }

    /** "FLOOR (what = 0), REACH (1), LEAST (2) .. BAD" */
    private static void settingsAreThree() {
        for (int n = 0; n <= 9; n++) {
            refusedSets(-1, n, BAD);
            refusedSets(3, n, BAD);
        }
        for (int far : Bounds.FAR) {
            refusedSets(far, 1, BAD);
        }
    }

    /** "FLOOR (1 to 9", "REACH (0 to 20", "LEAST (1 to 8" */
    private static void settingsHaveTheirLimits() {
        for (int what = 0; what < 3; what++) {
            refusedSets(what, LOWEST[what] - 1, BAD);
            refusedSets(what, HIGHEST[what] + 1, BAD);
            for (int far : Bounds.FAR) {
                refusedSets(what, far, BAD);
            }
            for (int n = -3; n <= 25; n++) {
                boolean fits = n >= LOWEST[what] && n <= HIGHEST[what];
                int want = !fits ? BAD : n == AT_FIRST[what] ? STATE : AT_FIRST[what];
                FollowedPeaks x = new FollowedPeaks();
                due("sets(" + what + ", " + n + ")", x.sets(what, n), want);
                due("count behind sets(" + what + ", " + n + ")", x.count(2 + what), fits ? n : AT_FIRST[what]);
                due("done behind sets(" + what + ", " + n + ")", x.count(10), want >= 0 ? 1 : 0);
            }
        }
    }

    /** "STATE: it is that." Each number that may be. */
    private static void aSettingThatItIs() {
        for (int what = 0; what < 3; what++) {
            for (Stand stand : Stand.values()) {
                int setting = what;
                int is = stand.object().count(2 + what);
                BOUNDS.refused(stand, "sets(" + what + ", " + is + ")", x -> x.sets(setting, is), STATE);
            }
            FollowedPeaks x = new FollowedPeaks();
            for (int n = LOWEST[what]; n <= HIGHEST[what]; n++) {
                x.sets(what, n);
                due("sets(" + what + ", " + n + ") again", x.sets(what, n), STATE);
            }
        }
    }

    private static void settingsChangeOneAlone() {
        for (int what = 0; what < 3; what++) {
            for (Stand stand : Stand.values()) {
                int setting = what;
                int is = stand.object().count(2 + what);
                int next = is == 7 ? 8 : 7;
                String call = "sets(" + what + ", " + next + ")";
                BOUNDS.changesOnly(stand, call, x -> x.sets(setting, next), is, CHANGED);
                BOUNDS.changesAll(stand, call, x -> x.sets(setting, next), Portrait.SCENE, Portrait.UNDO);
            }
            FollowedPeaks x = new FollowedPeaks();
            x.sets(what, 6);
            for (int other = 0; other < 3; other++) {
                due("count(" + (2 + other) + ") behind sets(" + what + ", 6)", x.count(2 + other),
                    other == what ? 6 : AT_FIRST[other]);
            }
        }
    }

    /** "STATE: none." */
    private static void nothingToUndo() {
        BOUNDS.refused(Stand.NEW, "undo()", FollowedPeaks::undo, STATE);
        for (Stand stand : Stand.values()) {
            FollowedPeaks x = stand.object();
            int known = x.count(10);
            for (int left = known - 1; left >= 0; left--) {
                due(stand + ": undo", x.undo(), left);
                due(stand + ": count(10)", x.count(10), left);
            }
            int frames = x.count(0);
            for (int again = 0; again < 3; again++) {
                due(stand + ": undo of none", x.undo(), STATE);
                due(stand + ": count(10) behind undo of none", x.count(10), 0);
                due(stand + ": frames behind undo of none", x.count(0), frames);
            }
        }
    }

    /** "(6 are known, older ones are lost)": as many as were done, 6 at most. */
    private static void sixAreKnown() {
        for (int done = 0; done <= 20; done++) {
            FollowedPeaks x = new FollowedPeaks();
            for (int n = 1; n <= done; n++) {
                x.levels(0, n % 3, x.level(0, n % 3) + 1);
                due("count(10) of " + n, x.count(10), Math.min(n, 6));
            }
            int known = Math.min(done, 6);
            for (int back = 1; back <= known; back++) {
                due("undo " + back + " of " + done, x.undo(), known - back);
                due("levels together", x.level(0, 0) + x.level(0, 1) + x.level(0, 2), done - back);
            }
            due("undo of none, behind " + done, x.undo(), STATE);
            due("levels together then", x.level(0, 0) + x.level(0, 1) + x.level(0, 2), done - known);
        }
    }

    /** Each of seven differs from the one ahead of it in another thing; the first can't be undone. */
    private static void theSeventhLosesTheOldest() {
        List<Bounds.Ask> steps = new ArrayList<>();
        steps.add(x -> Checks.tell(x, "frame 0909;frame 9090;reach 3;"));
        steps.add(x -> x.sets(0, 2));
        steps.add(x -> x.sets(1, 8));
        steps.add(x -> x.sets(2, 2));
        steps.add(x -> x.levels(1, 3, 5));
        steps.add(x -> Checks.tell(x, "frame 123456;frame 654321;frame 111111;"));
        steps.add(x -> x.levels(2, 5, 9));
        for (int done = 1; done <= steps.size(); done++) {
            for (int undone = 0; undone <= Math.min(done, 6); undone++) {
                int last = done;
                int back = undone;
                Map<String, String> there = Portrait.of(x -> {
                    takeSteps(x, steps, last);
                    for (int i = 0; i < back; i++) {
                        x.undo();
                    }
                });
                Map<String, String> ahead = Portrait.of(x -> takeSteps(x, steps, last - back));
                due("as ahead of " + undone + " of " + done, there.get(Portrait.SCENE)
                    .equals(ahead.get(Portrait.SCENE)) ? 1 : 0, 1);
            }
        }
        FollowedPeaks x = new FollowedPeaks();
        takeSteps(x, steps, 7);
        for (int left = 5; left >= 0; left--) {
            due("undo of seven", x.undo(), left);
        }
        due("the first of seven is lost", x.undo(), STATE);
        due("frames as the first of seven told them", x.count(0), 2);
        due("reach as the first of seven told it", x.count(3), 3);
    }

    private static void takeSteps(FollowedPeaks x, List<Bounds.Ask> steps, int many) {
        for (int i = 0; i < many; i++) {
            steps.get(i).on(x);
        }
    }

    /** "the latest tells(), levels(), sets()": a text that tells what is there already is told all the same. */
    private static void eachOfTheThreeIsUndone() {
        FollowedPeaks x = new FollowedPeaks();
        due("a text", Checks.tell(x, "frame 000;"), 1);
        due("done", x.count(10), 1);
        due("undo of a text", x.undo(), 0);
        x.levels(0, 0, 9);
        due("undo of levels", x.undo(), 0);
        due("level", x.level(0, 0), 0);
        for (int what = 0; what < 3; what++) {
            x.sets(what, 8);
            due("undo of sets", x.undo(), 0);
            due("count(" + (2 + what) + ")", x.count(2 + what), AT_FIRST[what]);
        }
        // There and back again are two changes.
        x.levels(0, 0, 9);
        x.levels(0, 0, 0);
        due("two are known", x.count(10), 2);
        due("undo of the second", x.undo(), 1);
        due("level as ahead of the second", x.level(0, 0), 9);
    }

    /** "that was not refused" */
    private static void refusedCallsAreNotKnown() {
        FollowedPeaks x = new FollowedPeaks();
        x.levels(0, 1, 5);
        x.levels(0, 1, 5);
        x.levels(0, 1, 10);
        x.levels(1, 1, 5);
        x.sets(0, 1);
        x.sets(0, 10);
        x.sets(3, 1);
        Checks.tell(x, "frame 00;");
        due("one is known", x.count(10), 1);
        due("undo of that one", x.undo(), 0);
        due("level ahead of it", x.level(0, 1), 0);
        due("no more", x.undo(), STATE);
    }

    private static void otherCallsAreNotKnown() {
        FollowedPeaks x = Checks.told("frame 909;frame 090;");
        x.type('a');
        x.clear();
        x.sees(0, 0);
        x.forget();
        x.keep(0);
        x.best(0);
        x.which(0);
        x.listen();
        due("one is known", x.count(10), 1);
        due("undo of that one", x.undo(), 0);
        due("frames ahead of it", x.count(0), 1);
    }

    private static void undoneIsNotKnownAgain() {
        FollowedPeaks x = new FollowedPeaks();
        x.levels(0, 0, 1);
        x.levels(0, 0, 2);
        x.levels(0, 0, 3);
        due("undo", x.undo(), 2);
        due("undo goes on", x.undo(), 1);
        due("level", x.level(0, 0), 1);
        x.levels(0, 0, 7);
        due("known behind a change", x.count(10), 2);
        due("undo of the change", x.undo(), 1);
        due("level", x.level(0, 0), 1);
        due("undo of the first", x.undo(), 0);
        due("level", x.level(0, 0), 0);
        due("no more", x.undo(), STATE);
    }

    /** "all that 1 tells but THE TEXT is as ahead of it" */
    private static void undoLeavesTextSeenAndImages() {
        BOUNDS.changesOnly(Stand.IN_USE, "undo()", FollowedPeaks::undo, 2, CHANGED);
        BOUNDS.changesAll(Stand.IN_USE, "undo()", FollowedPeaks::undo, Portrait.SCENE, Portrait.UNDO);
        BOUNDS.changesOnly(Stand.FULL, "undo()", FollowedPeaks::undo, 5, CHANGED);
        FollowedPeaks x = new FollowedPeaks();
        Checks.tell(x, "frame 753;");
        due("a told text's undo", x.undo(), 0);
        due("its text does not come again", x.count(9), 0);
        due("nothing to tell", x.tells(), -10);
    }

    /** Scenes as large as a text can tell them: 8 of 11 places, 7 of 12. */
    private static void undoOfTheLargestScenes() {
        FollowedPeaks x = new FollowedPeaks();
        Checks.tell(x, "frame12345678909;".repeat(8));
        x.clear();
        Checks.tell(x, "frame987654321098;".repeat(7));
        due("undo", x.undo(), 1);
        due("frames", x.count(0), 8);
        due("B", x.count(1), 11);
        for (int f = 0; f < 8; f++) {
            due("level(" + f + ", 0)", x.level(f, 0), 1);
            due("level(" + f + ", 10)", x.level(f, 10), 9);
            due("level(" + f + ", 11)", x.level(f, 11), BAD);
        }
        due("undo", x.undo(), 0);
        due("frames", x.count(0), 1);
        due("B", x.count(1), 3);
        due("level(0, 0)", x.level(0, 0), 0);
    }
}
