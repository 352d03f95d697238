/** The boundary cases of which track it is: promises 14 to 17. */
public final class SeenBoundsTest {
    private static final int BAD = Bounds.BAD, FULL = Bounds.FULL, NONE = Bounds.NONE;
    private static final Checks CHECKS = new Checks("SeenBoundsTest");
    private static final Bounds BOUNDS = new Bounds(CHECKS);

    public static void main(String[] args) {
        framesAre0To7();
        pitchesAreMinus1To45OrNone();
        sixAreSeenAtMost();
        seesChangesWhatWasSeenAlone();
        forgetOfNoneAndOfSix();
        whichOfTwo();
        whichOfNoneSeen();
        whichOfNoTracks();
        whichInFramesThatAreNotThere();
        whichAtTheEndsOfPitches();
        whichAllThatWasSeen();
        whichTheLowest();
        whichBehindChanges();
        listenWithOneAtMost();
        listenTheLeastOfTheGreatest();
        listenOfSeveralTheEarliest();
        listenInTheLastFrame();
        listenCountsThoseWithNone();
        listenAtTheHighestPitches();
        listenOfTheMostTracks();
        CHECKS.end();
    }

    private static void due(String call, long got, long want) {
        CHECKS.due(call, got, want);
    }

    private static void refusedSees(int frame, int pitch) {
        BOUNDS.refusedEverywhere("sees(" + frame + ", " + pitch + ")", x -> x.sees(frame, pitch), BAD);
    }

    private static void dueWhich(String name, FollowedPeaks x, int many, int lowest) {
        due(name + ": which(0)", x.which(0), many);
        due(name + ": which(1)", x.which(1), lowest);
    }

    private static FollowedPeaks told(String text, int... framesAndPitches) {
        FollowedPeaks x = Checks.told(text);
        for (int i = 0; i < framesAndPitches.length; i += 2) {
            due("sees on " + text, x.sees(framesAndPitches[i], framesAndPitches[i + 1]), i / 2 + 1);
        }
        return x;
    }

    /** "a FRAME (0 to 7)", whether it is there or not. */
    private static void framesAre0To7() {
        for (int frame = -4; frame <= 12; frame++) {
            for (int pitch : new int[] {NONE, -1, 0, 45}) {
                boolean fits = frame >= 0 && frame <= 7;
                FollowedPeaks x = new FollowedPeaks();
                due("sees(" + frame + ", " + pitch + ")", x.sees(frame, pitch), fits ? 1 : BAD);
                due("count(8) behind it", x.count(8), fits ? 1 : 0);
            }
        }
        refusedSees(-1, 4);
        refusedSees(8, 4);
        refusedSees(-1, NONE);
        refusedSees(8, NONE);
        for (int far : Bounds.FAR) {
            refusedSees(far, 4);
        }
    }

    /** "a PITCH (-1 to 45), or none (NONE)" */
    private static void pitchesAreMinus1To45OrNone() {
        for (int pitch = -30; pitch <= 70; pitch++) {
            boolean fits = pitch >= -1 && pitch <= 45 || pitch == NONE;
            FollowedPeaks x = new FollowedPeaks();
            due("sees(0, " + pitch + ")", x.sees(0, pitch), fits ? 1 : BAD);
            due("count(8) behind it", x.count(8), fits ? 1 : 0);
        }
        for (int pitch : new int[] {-2, -3, -8, -10, 46, Bounds.NO}) {
            refusedSees(0, pitch);
            refusedSees(7, pitch);
        }
        for (int far : Bounds.FAR) {
            refusedSees(0, far);
        }
    }

    /** "SEEN (6 at most)", "FULL: 6", "the first of these that is so: BAD, STATE, FULL" */
    private static void sixAreSeenAtMost() {
        FollowedPeaks x = new FollowedPeaks();
        for (int n = 1; n <= 6; n++) {
            due("seen " + n, x.sees(0, 4), n);
            due("count(8)", x.count(8), n);
        }
        for (int again = 0; again < 3; again++) {
            due("the seventh", x.sees(0, 4), FULL);
            due("count(8)", x.count(8), 6);
        }
        BOUNDS.refused(Stand.FULL, "sees(0, 8)", y -> y.sees(0, 8), FULL);
        BOUNDS.refused(Stand.FULL, "sees(7, 45)", y -> y.sees(7, 45), FULL);
        BOUNDS.refused(Stand.FULL, "sees(7, NONE)", y -> y.sees(7, NONE), FULL);
        BOUNDS.refused(Stand.FULL, "BAD ahead of FULL: sees(8, 0)", y -> y.sees(8, 0), BAD);
        BOUNDS.refused(Stand.FULL, "BAD ahead of FULL: sees(0, 46)", y -> y.sees(0, 46), BAD);
        due("forget", x.forget(), 6);
        for (int n = 1; n <= 6; n++) {
            due("seen " + n + " behind forget", x.sees(n, n), n);
        }
        due("the seventh behind forget", x.sees(7, 7), FULL);
    }

    private static void seesChangesWhatWasSeenAlone() {
        BOUNDS.changesOnly(Stand.NEW, "sees(0, 0)", x -> x.sees(0, 0), 1, Portrait.SEEN, Portrait.WHICH);
        BOUNDS.changesAll(Stand.NEW, "sees(0, 0)", x -> x.sees(0, 0), Portrait.SEEN);
        BOUNDS.changesOnly(Stand.IN_USE, "sees(0, 45)", x -> x.sees(0, 45), 3, Portrait.SEEN, Portrait.WHICH);
        BOUNDS.changesAll(Stand.IN_USE, "sees(0, 45)", x -> x.sees(0, 45), Portrait.SEEN, Portrait.WHICH);
    }

    /** "Nothing is SEEN: how much was." */
    private static void forgetOfNoneAndOfSix() {
        BOUNDS.changesOnly(Stand.NEW, "forget()", FollowedPeaks::forget, 0);
        BOUNDS.changesOnly(Stand.IN_USE, "forget()", FollowedPeaks::forget, 2, Portrait.SEEN, Portrait.WHICH);
        BOUNDS.changesOnly(Stand.FULL, "forget()", FollowedPeaks::forget, 6, Portrait.SEEN, Portrait.WHICH);
        BOUNDS.changesAll(Stand.FULL, "forget()", FollowedPeaks::forget, Portrait.SEEN);
        for (Stand stand : Stand.values()) {
            FollowedPeaks x = stand.object();
            x.forget();
            due(stand + ": count(8) behind forget", x.count(8), 0);
            due(stand + ": all tracks behind forget", x.which(0), x.count(5));
            due(stand + ": forget again", x.forget(), 0);
            due(stand + ": the first behind forget", x.sees(0, 4), 1);
        }
    }

    /** "how many (what = 0), the lowest (1; NONE). BAD." */
    private static void whichOfTwo() {
        BOUNDS.refusedEverywhere("which(-1)", x -> x.which(-1), BAD);
        BOUNDS.refusedEverywhere("which(2)", x -> x.which(2), BAD);
        for (int far : Bounds.FAR) {
            BOUNDS.refusedEverywhere("which(" + far + ")", x -> x.which(far), BAD);
        }
    }

    private static void whichOfNoneSeen() {
        dueWhich("one", told("frame 090;"), 1, 0);
        dueWhich("six", told("frame 90909090909;"), 6, 0);
        FollowedPeaks x = Checks.told("frame90909090909;frame91929394959;".repeat(4));
        x.sets(1, 0);
        dueWhich("the most", x, 48, 0);
        // Short tracks, which are not kept, are tracks too.
        dueWhich("none kept", told("frame 909;least 8;"), 2, 0);
    }

    private static void whichOfNoTracks() {
        dueWhich("no track", new FollowedPeaks(), 0, NONE);
        dueWhich("no track, none seen there", told("frame 000;", 0, NONE), 0, NONE);
        dueWhich("no track by the floor", told("frame 555;floor 6;", 0, NONE), 0, NONE);
    }

    /** "(In a FRAME that is not there no TRACK has a PEAK.)" */
    private static void whichInFramesThatAreNotThere() {
        for (int frames = 1; frames <= 8; frames++) {
            String text = "frame909;".repeat(frames);
            for (int f = 0; f < 8; f++) {
                boolean there = f < frames;
                dueWhich("none in " + f + " of " + frames, told(text, f, NONE), there ? 0 : 2, there ? NONE : 0);
                dueWhich("8 in " + f + " of " + frames, told(text, f, 8), there ? 1 : 0, there ? 1 : NONE);
            }
        }
        // Frames that were there earlier are not there now.
        FollowedPeaks x = Checks.told("frame909;".repeat(8));
        Checks.tell(x, "frame909;");
        x.sees(7, NONE);
        dueWhich("one frame, behind eight", x, 2, 0);
    }

    /** "a PITCH (-1 to 45)": no peak has -1 or 45; 0 and 44 are the lowest and the highest. */
    private static void whichAtTheEndsOfPitches() {
        String text = "frame 900000000009;";
        dueWhich("-1", told(text, 0, -1), 0, NONE);
        dueWhich("0", told(text, 0, 0), 1, 0);
        dueWhich("1", told(text, 0, 1), 0, NONE);
        dueWhich("43", told(text, 0, 43), 0, NONE);
        dueWhich("44", told(text, 0, 44), 1, 1);
        dueWhich("45", told(text, 0, 45), 0, NONE);
        dueWhich("NONE", told(text, 0, NONE), 0, NONE);
    }

    /** "TRACKS by which all that was SEEN is so": each of six counts, the first as the last. */
    private static void whichAllThatWasSeen() {
        String text = "frame 909;frame 909;frame 009;reach 0;";
        int[] fits = {0, 0, 1, 0, 2, NONE, 3, NONE, 7, NONE, 0, 0};
        dueWhich("all six", told(text, fits), 1, 0);
        for (int i = 0; i < fits.length; i += 2) {
            int[] wrong = fits.clone();
            wrong[i + 1] = wrong[i + 1] == NONE ? 8 : NONE;
            dueWhich("all but that at " + i / 2, told(text, wrong), 0, NONE);
        }
        dueWhich("the same twice", told(text, 0, 0, 0, 0), 1, 0);
        dueWhich("two pitches in one frame", told(text, 0, 0, 0, 8), 0, NONE);
        dueWhich("a pitch and none in one frame", told(text, 0, 0, 0, NONE), 0, NONE);
    }

    private static void whichTheLowest() {
        String text = "frame 90909;frame 00909;frame 00009;reach 0;";
        dueWhich("none seen", told(text), 3, 0);
        dueWhich("none in 1", told(text, 1, NONE), 1, 0);
        dueWhich("none in 2", told(text, 2, NONE), 2, 0);
        dueWhich("8 in 1", told(text, 1, 8), 1, 1);
        dueWhich("16 in 2", told(text, 2, 16), 1, 2);
        dueWhich("none in 2, 8 in 0", told(text, 2, NONE, 0, 8), 1, 1);
    }

    /** What was seen stays when the scene changes; which is found anew. */
    private static void whichBehindChanges() {
        FollowedPeaks x = told("frame 909;frame 090;reach 0;", 1, NONE);
        dueWhich("told", x, 2, 0);
        x.sets(1, 4);
        dueWhich("by reach 4", x, 1, 1);
        x.levels(1, 1, 0);
        dueWhich("without that peak", x, 2, 0);
        x.undo();
        dueWhich("undone", x, 1, 1);
        x.sets(0, 9);
        x.levels(0, 2, 8);
        dueWhich("below the floor", x, 0, NONE);
        x.keep(0);
        Checks.tell(x, "frame 909;");
        dueWhich("another text", x, 2, 0);
        x.back(0);
        dueWhich("back", x, 0, NONE);
    }

    private static void dueListen(String text, int want, int... framesAndPitches) {
        FollowedPeaks x = told(text, framesAndPitches);
        due("listen of " + text, x.listen(), want);
        due("listen again of " + text, x.listen(), want);
    }

    /** "NONE (one can be at most)" */
    private static void listenWithOneAtMost() {
        dueListen("frame 000;", NONE);
        dueListen("frame 090;", NONE);
        dueListen("frame 909;", 0);
        dueListen("frame 909;", NONE, 0, 0);
        dueListen("frame 909;", NONE, 0, 4);
        dueListen("frame 909;", 0, 1, NONE);
        dueListen("frame 909;", NONE, 1, 0);
        dueListen("frame 90909;", 0);
        dueListen("frame 90909;frame 90000;reach 0;", 0, 1, NONE);
        dueListen("frame 90909;frame 90000;reach 0;", NONE, 1, 0);
    }

    /** "the FRAME in which the greatest number of these that have a PEAK of one PITCH there, or none, is least" */
    private static void listenTheLeastOfTheGreatest() {
        // Tracks at 0 (frames 0, 1), 8 (1), 16 (1, 2), 24 (2): the most alike are 3, 1 (none), 2 (none).
        dueListen("frame 9000000;frame 9090900;frame 0000909;reach 0;", 1);
        // Two in each frame of three, but one frame parts them all.
        dueListen("frame 90000;frame 90909;frame 00009;reach 0;", 1);
        dueListen("frame 90909;frame 90000;frame 00000;reach 0;", 0);
        dueListen("frame 00000;frame 90000;frame 90909;reach 0;", 2);
        // Only those that can still be are counted: the first two of the four above part in frame 0 already.
        dueListen("frame 9000000;frame 9090900;frame 0000909;reach 0;", 0, 2, NONE);
    }

    /** "of several the earliest" */
    private static void listenOfSeveralTheEarliest() {
        for (int frames = 1; frames <= 8; frames++) {
            dueListen("frame909;".repeat(frames), 0);
        }
        dueListen("frame000;frame909;frame909;frame909;", 1);
        dueListen("frame000;frame000;frame900;frame900;frame009;reach 0;", 2);
        // Two tracks, each alone in its frame: both frames part them.
        dueListen("frame 900;frame 009;reach 0;", 0);
        dueListen("frame 000;frame 900;frame 009;reach 0;", 1);
    }

    private static void listenInTheLastFrame() {
        for (int frames = 1; frames <= 8; frames++) {
            dueListen("frame000;".repeat(frames - 1) + "frame909;", frames - 1);
        }
    }

    /** "or none": those without a peak are alike. */
    private static void listenCountsThoseWithNone() {
        // Frame 0 has two of five, frame 1 three: three and two are without.
        dueListen("frame 900000009;frame 009090900;reach 0;", 1);
        // Frame 0 has three of five, frame 1 two.
        dueListen("frame 009090900;frame 900000009;reach 0;", 0);
        // Three of six in each: three are without in both.
        dueListen("frame 90909000000;frame 00000090909;reach 0;", 0);
    }

    /** High pitches part tracks no better than low ones: the earlier frame it is. */
    private static void listenAtTheHighestPitches() {
        dueListen("frame 000090900000;frame 000000090900;reach 12;", 0);
        dueListen("frame 000000090900;frame 000000000929;reach 9;", 0);
        dueListen("frame 000000000929;frame 000000090900;reach 9;", 0);
        dueListen("frame 000000000000;frame 000000000909;", 1);
    }

    private static void listenOfTheMostTracks() {
        FollowedPeaks x = Checks.told("frame90909090909;frame91929394959;".repeat(4));
        due("six tracks, each with another pitch", x.listen(), 0);
        x.sets(1, 0);
        due("48 tracks, 42 without a peak in each frame", x.listen(), 0);
        x.sees(0, NONE);
        due("42 tracks, 36 without a peak but in frame 0", x.listen(), 1);
    }
}
