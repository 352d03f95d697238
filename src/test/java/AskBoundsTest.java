/** The boundary cases of a new object and of what is asked: promises 1, 8, 9, 10, 12, 13, 20. */
public final class AskBoundsTest {
    private static final int BAD = Bounds.BAD, NONE = Bounds.NONE, NO = Bounds.NO;
    private static final Checks CHECKS = new Checks("AskBoundsTest");
    private static final Bounds BOUNDS = new Bounds(CHECKS);

    public static void main(String[] args) {
        constantsAreAsTold();
        aNewObject();
        questionsChangeNothing();
        levelOfPlacesThatAreThere();
        peakOfWhatIsNotThere();
        peakNotSoMany();
        peaksAreAtFloorOrMore();
        peaksOfThreeLevels();
        peaksAtTheEdges();
        peaksSixAtMost();
        joinedNoMoreThanReachApart();
        joinedInTheLastFrame();
        joinedWithAFrameOfNone();
        joinedTheMost();
        joinedTheNearest();
        joinedTheLowest();
        joinedWithoutCrossing();
        frameOfWhatIsNotThere();
        framesOfNoPeaks();
        bornInTheFirstEndingInTheLast();
        pitchOfWhatIsNotThere();
        pitchAheadOfBirthAndBehindTheEnd();
        bestOfTwo();
        bestReachFrom0To20();
        bestOfNoTracks();
        bestTheLeastOfSeveral();
        bestBehindEachChange();
        countOfEleven();
        countTheMostLong();
        countFromEmptyToFull();
        CHECKS.end();
    }

    private static void due(String call, long got, long want) {
        CHECKS.due(call, got, want);
    }

    private static void constantsAreAsTold() {
        due("BAD", FollowedPeaks.BAD, -1);
        due("STATE", FollowedPeaks.STATE, -2);
        due("FULL", FollowedPeaks.FULL, -3);
        due("NONE", FollowedPeaks.NONE, -9);
        due("NO", FollowedPeaks.NO, -1000000);
    }

    /** "One FRAME of three LEVELS 0.", "FLOOR (.. 1 at first), REACH (.. 4 at first), LEAST (.. 1 at first)" */
    private static void aNewObject() {
        FollowedPeaks x = new FollowedPeaks();
        CHECKS.dueCounts("new", x, 1, 3, 1, 4, 1, 0, 0, NONE, 0, 0, 0, BAD);
        for (int place = 0; place < 3; place++) {
            due("new: level(0, " + place + ")", x.level(0, place), 0);
        }
        due("new: level(0, 3)", x.level(0, 3), BAD);
        due("new: level(1, 0)", x.level(1, 0), BAD);
        for (int what = 0; what <= 4; what++) {
            due("new: frame(0, " + what + ")", x.frame(0, what), 0);
            due("new: peak(0, 0, " + what + ")", x.peak(0, 0, what), NONE);
        }
        due("new: frame(1, 0)", x.frame(1, 0), BAD);
        due("new: track(0, 0)", x.track(0, 0), NO);
        due("new: pitch(0, 0)", x.pitch(0, 0), NO);
        due("new: best(0)", x.best(0), 0);
        due("new: best(1)", x.best(1), 0);
        due("new: which(0)", x.which(0), 0);
        due("new: which(1)", x.which(1), NONE);
        due("new: listen()", x.listen(), NONE);
        due("new: back(0)", x.back(0), Bounds.STATE);
        due("new: back(1)", x.back(1), Bounds.STATE);
        due("new: undo()", x.undo(), Bounds.STATE);
        due("new: clear()", x.clear(), 0);
        due("new: forget()", x.forget(), 0);
        due("new: tells()", x.tells(), -10);
    }

    /** "(Nothing is changed.)" and the other questions, with numbers that are there and that are not. */
    private static void questionsChangeNothing() {
        for (Stand stand : Stand.values()) {
            for (int what = -1; what <= 11; what++) {
                int w = what;
                FollowedPeaks x = stand.object();
                BOUNDS.refused(stand, "count(" + w + ")", y -> y.count(w), x.count(w));
                BOUNDS.refused(stand, "best(" + w + ")", y -> y.best(w), x.best(w));
                BOUNDS.refused(stand, "which(" + w + ")", y -> y.which(w), x.which(w));
                BOUNDS.refused(stand, "frame(0, " + w + ")", y -> y.frame(0, w), x.frame(0, w));
                BOUNDS.refused(stand, "track(0, " + w + ")", y -> y.track(0, w), x.track(0, w));
                BOUNDS.refused(stand, "peak(0, 0, " + w + ")", y -> y.peak(0, 0, w), x.peak(0, 0, w));
                BOUNDS.refused(stand, "pitch(0, " + w + ")", y -> y.pitch(0, w), x.pitch(0, w));
                BOUNDS.refused(stand, "level(0, " + w + ")", y -> y.level(0, w), x.level(0, w));
            }
            BOUNDS.refused(stand, "listen()", FollowedPeaks::listen, stand.object().listen());
        }
    }

    /** "The LEVEL at a place of a FRAME. BAD." */
    private static void levelOfPlacesThatAreThere() {
        for (Stand stand : Stand.values()) {
            FollowedPeaks x = stand.object();
            int frames = x.count(0);
            int places = x.count(1);
            for (int f = -3; f <= 11; f++) {
                for (int place = -3; place <= 14; place++) {
                    boolean there = f >= 0 && f < frames && place >= 0 && place < places;
                    int got = stand.object().level(f, place);
                    CHECKS.dueTrue(stand + ": level(" + f + ", " + place + ") answered " + got,
                        there ? got >= 0 && got <= 9 : got == BAD);
                }
            }
            for (int far : Bounds.FAR) {
                due(stand + ": level(" + far + ", 0)", x.level(far, 0), BAD);
                due(stand + ": level(0, " + far + ")", x.level(0, far), BAD);
            }
        }
    }

    /** "NO: BAD." ahead of "NONE: not so many." */
    private static void peakOfWhatIsNotThere() {
        for (Stand stand : Stand.values()) {
            FollowedPeaks x = stand.object();
            int frames = x.count(0);
            for (int what = 0; what <= 4; what++) {
                due(stand + ": peak(-1, 0, " + what + ")", x.peak(-1, 0, what), NO);
                due(stand + ": peak(frames, 0, " + what + ")", x.peak(frames, 0, what), NO);
                due(stand + ": peak(8, 0, " + what + ")", x.peak(8, 0, what), NO);
                due(stand + ": peak(0, -1, " + what + ")", x.peak(0, -1, what), NO);
                due(stand + ": peak(last, -1, " + what + ")", x.peak(frames - 1, -1, what), NO);
                due(stand + ": peak(frames, 100, " + what + ")", x.peak(frames, 100, what), NO);
            }
            for (int far : Bounds.FAR) {
                due(stand + ": peak(" + far + ", 0, 0)", x.peak(far, 0, 0), NO);
                due(stand + ": peak(0, 0, " + far + ")", x.peak(0, 0, far), NO);
                due(stand + ": peak(0, " + far + ", 0)", x.peak(0, far, 0), far < 0 ? NO : NONE);
            }
            for (int k : new int[] {0, 5, 6, 100}) {
                due(stand + ": peak(0, " + k + ", -1)", x.peak(0, k, -1), NO);
                due(stand + ": peak(0, " + k + ", 5)", x.peak(0, k, 5), NO);
            }
        }
    }

    /** "NONE: not so many.": from no peak to six. */
    private static void peakNotSoMany() {
        for (int many = 0; many <= 6; many++) {
            String row = "90".repeat(many) + "00".repeat(6 - many);
            FollowedPeaks x = Checks.told("frame " + row + ";frame 909090909090;");
            due("peaks of " + row, x.frame(0, 0), many);
            for (int k = 0; k <= 8; k++) {
                due("peak(0, " + k + ", 0) of " + row, x.peak(0, k, 0), k < many ? 2 * k : NONE);
                due("peak(0, " + k + ", 1) of " + row, x.peak(0, k, 1), k < many ? 8 * k : NONE);
                due("peak(0, " + k + ", 2) of " + row, x.peak(0, k, 2), k < many ? 9 : NONE);
                due("peak(0, " + k + ", 3) of " + row, x.peak(0, k, 3), k < many ? k : NONE);
                due("peak(0, " + k + ", 4) of " + row, x.peak(0, k, 4), k < many ? k : NONE);
            }
        }
    }

    /** "places whose LEVEL is FLOOR or more": each level by each floor; 0 is none by any. */
    private static void peaksAreAtFloorOrMore() {
        for (int floor = 1; floor <= 9; floor++) {
            for (int level = 0; level <= 9; level++) {
                int many = level >= floor ? 1 : 0;
                String text = "frame 0" + level + "0;floor " + floor + ";";
                due("peaks of " + text, Checks.told(text).frame(0, 0), many);
                FollowedPeaks x = Checks.told("frame 0" + level + "0;");
                x.sets(0, floor);
                due("peaks of " + text + " by sets", x.frame(0, 0), many);
                due("tracks of " + text, x.count(5), many);
            }
        }
        // A place below the floor still counts as a neighbour.
        FollowedPeaks x = Checks.told("frame 0492;floor 5;");
        due("pitch beside places below the floor", x.peak(0, 0, 1), 7);
    }

    /** "above the LEVEL of the place below", "no less than that of the place above", PITCH: all rows of three. */
    private static void peaksOfThreeLevels() {
        for (int row = 0; row < 1000; row++) {
            int[] levels = {0, row / 100, row / 10 % 10, row % 10, 0};
            FollowedPeaks x = Checks.told("frame " + levels[1] + levels[2] + levels[3] + ";");
            int k = 0;
            for (int i = 1; i <= 3; i++) {
                if (levels[i] > levels[i - 1] && levels[i] >= levels[i + 1]) {
                    int pitch = 4 * (i - 1);
                    pitch += levels[i + 1] > levels[i - 1] ? 1 : 0;
                    pitch -= levels[i + 1] < levels[i - 1] ? 1 : 0;
                    due("place of peak " + k + " in " + row, x.peak(0, k, 0), i - 1);
                    due("pitch of peak " + k + " in " + row, x.peak(0, k, 1), pitch);
                    due("loud of peak " + k + " in " + row, x.peak(0, k, 2), levels[i]);
                    k++;
                }
            }
            due("peaks of " + row, x.frame(0, 0), k);
        }
    }

    /** "(0, if there is none)", below and above. */
    private static void peaksAtTheEdges() {
        int[][] lowEdge = {{100, 0}, {110, 1}, {191, -1}, {900, 0}, {980, 1}, {990, 1}};
        for (int[] row : lowEdge) {
            FollowedPeaks x = Checks.told("frame " + row[0] + ";");
            if (row[1] >= 0) {
                due("lowest place in " + row[0], x.peak(0, 0, 0), 0);
                due("pitch there in " + row[0], x.peak(0, 0, 1), row[1]);
            } else {
                due("no peak at the lowest place in " + row[0], x.peak(0, 0, 0), 1);
            }
        }
        for (int places = 3; places <= 12; places++) {
            int top = 4 * (places - 1);
            String zeros = "0".repeat(places - 2);
            dueTop(zeros + "01", top);
            dueTop(zeros + "19", top - 1);
            dueTop(zeros + "89", top - 1);
            dueTop(zeros + "99", top - 3);
            dueTop(zeros + "98", top - 3);
        }
    }

    private static void dueTop(String row, int pitch) {
        FollowedPeaks x = Checks.told("frame " + row + ";");
        due("peaks of " + row, x.frame(0, 0), 1);
        due("pitch in " + row, x.peak(0, 0, 1), pitch);
    }

    private static void peaksSixAtMost() {
        FollowedPeaks x = Checks.told("frame 909090909090;frame 090909090909;frame 123456789876;frame 999999999999;");
        int[] many = {6, 6, 1, 1};
        for (int f = 0; f < many.length; f++) {
            due("frame(" + f + ", 0)", x.frame(f, 0), many[f]);
            due("peak(" + f + ", many, 0)", x.peak(f, many[f], 0), NONE);
        }
        due("the sixth of frame 0", x.peak(0, 5, 0), 10);
        due("the sixth of frame 1", x.peak(1, 5, 0), 11);
        due("the sixth's pitch", x.peak(1, 5, 1), 44);
    }

    /** A row of 9 places with one peak of that pitch. */
    private static String rowOf(int pitch) {
        char[] row = "000000000".toCharArray();
        int place = (pitch + 1) / 4;
        row[place] = '9';
        if (pitch % 4 == 1) {
            row[place + 1] = '2';
        }
        if (pitch % 4 == 3) {
            row[place - 1] = '2';
        }
        return new String(row);
    }

    /** Two frames with one peak each, so far apart; a pitch can't be two quarters off its place. */
    private static String[] rowsApart(int apart) {
        int first = apart % 4 == 2 ? 1 : 0;
        return new String[] {rowOf(first), rowOf(first + apart)};
    }

    /** "PITCHES of a pair no more than REACH apart": each reach, up and down, by text and by sets. */
    private static void joinedNoMoreThanReachApart() {
        for (int apart = 0; apart <= 26; apart++) {
            String[] rows = rowsApart(apart);
            String up = "frame " + rows[0] + ";frame " + rows[1] + ";";
            String down = "frame " + rows[1] + ";frame " + rows[0] + ";";
            for (int reach = 0; reach <= 20; reach++) {
                int want = apart <= reach ? 0 : NONE;
                due(up + " by " + reach, Checks.told(up + "reach " + reach + ";").peak(0, 0, 4), want);
                due(down + " by " + reach, Checks.told(down + "reach " + reach + ";").peak(0, 0, 4), want);
                FollowedPeaks x = Checks.told(up);
                x.sets(1, reach);
                due("pitches apart of " + up, Math.abs(x.peak(0, 0, 1) - x.peak(1, 0, 1)), apart);
                due(up + " by sets to " + reach, x.peak(0, 0, 4), want);
                due("tracks of " + up, x.count(5), want == NONE ? 2 : 1);
            }
        }
    }

    /** "the PEAK of the next FRAME with which it is JOINED (NONE)": none behind the last one. */
    private static void joinedInTheLastFrame() {
        for (int frames = 1; frames <= 8; frames++) {
            FollowedPeaks x = Checks.told("frame909;".repeat(frames));
            for (int f = 0; f < frames; f++) {
                due("peak(" + f + ", 0, 4) of " + frames, x.peak(f, 0, 4), f < frames - 1 ? 0 : NONE);
                due("peak(" + f + ", 1, 4) of " + frames, x.peak(f, 1, 4), f < frames - 1 ? 1 : NONE);
                due("peak(" + f + ", 1, 3) of " + frames, x.peak(f, 1, 3), 1);
            }
        }
        // What stood in frames that are no longer there is not joined.
        FollowedPeaks x = Checks.told("frame909;".repeat(8));
        Checks.tell(x, "frame909;".repeat(3));
        due("the last of three, behind eight", x.peak(2, 0, 4), NONE);
        due("tracks", x.count(5), 2);
    }

    /** "two FRAMES one behind the other": not over one between. */
    private static void joinedWithAFrameOfNone() {
        FollowedPeaks x = Checks.told("frame 090;frame 000;frame 090;reach 20;");
        due("into a frame of none", x.peak(0, 0, 4), NONE);
        due("tracks", x.count(5), 2);
        due("the first one's length", x.track(0, 1), 1);
        due("the second one's birth", x.track(1, 0), 2);
        x = Checks.told("frame 000;frame 090;frame 000;");
        due("between two of none", x.peak(1, 0, 4), NONE);
        due("one track", x.count(5), 1);
    }

    private static void dueJoined(String text, int... want) {
        FollowedPeaks x = Checks.told(text);
        due("peaks of " + text, x.frame(0, 0), want.length);
        for (int k = 0; k < want.length; k++) {
            due("peak(0, " + k + ", 4) of " + text, x.peak(0, k, 4), want[k]);
        }
    }

    /** "those with the most pairs", however far apart. */
    private static void joinedTheMost() {
        // 0 and 8 with 8 and 16: one pair of the same pitch, or two that are 8 apart.
        dueJoined("frame 90900;frame 00909;reach 8;", 0, 1);
        dueJoined("frame 90900;frame 00909;reach 7;", NONE, 0);
        dueJoined("frame 00909;frame 90900;reach 8;", 0, 1);
        dueJoined("frame 00909;frame 90900;reach 7;", 1, NONE);
        // Three pairs 16 apart each, ahead of one pair at the same pitch.
        dueJoined("frame 9090900000;frame 0000909090;reach 16;", 0, 1, 2);
        dueJoined("frame 9090900000;frame 0000909090;reach 15;", NONE, 0, 1);
    }

    /** "of several those whose PITCHES are apart least, all pairs together" */
    private static void joinedTheNearest() {
        // 8 with 4 or 16; 8 with 0 or 12.
        dueJoined("frame 00900;frame 09009;reach 20;", 0);
        dueJoined("frame 00900;frame 90090;reach 20;", 1);
        // One quarter decides: 8 with 4 or 13; 8 with 3 or 12.
        dueJoined("frame 00900;frame 09092;reach 20;", 0);
        dueJoined("frame 00900;frame 29090;reach 20;", 1);
        // 0 and 16 with 8, 12: together 8 + 4, the only two pairs; with 12 alone: the nearer one.
        dueJoined("frame 90009;frame 00090;reach 20;", NONE, 0);
        dueJoined("frame 90009;frame 09000;reach 20;", 0, NONE);
    }

    /** "the lowest PEAK of the first that they don't pair alike is paired with the lower PEAK (paired ahead ..)" */
    private static void joinedTheLowest() {
        // One with two that are as near: the lower one.
        dueJoined("frame 00900;frame 90009;reach 8;", 0);
        // Two that are as near with one: the lower one is paired.
        dueJoined("frame 90009;frame 00900;reach 8;", 0, NONE);
        // Two with three, three with two, all 8 apart.
        dueJoined("frame 009000900;frame 900090009;reach 8;", 0, 1);
        dueJoined("frame 900090009;frame 009000900;reach 8;", 0, 1, NONE);
        // The lowest has no choice; the next that has one takes the lower.
        dueJoined("frame 900000900;frame 900090009;reach 8;", 0, 1);
        // Five with six, six with five, all 4 apart.
        dueJoined("frame 09090909090;frame 90909090909;reach 4;", 0, 1, 2, 3, 4);
        dueJoined("frame 90909090909;frame 09090909090;reach 4;", 0, 1, 2, 3, 4, NONE);
    }

    /** "no two pairs crossing", "each in one pair at most" */
    private static void joinedWithoutCrossing() {
        for (String text : new String[] {"frame 90909;frame 09090;reach 20;", "frame 09090;frame 90909;reach 20;",
            "frame 90009090909;frame 09090009009;reach 20;", "frame 909090909090;frame 090909090909;reach 20;"}) {
            FollowedPeaks x = Checks.told(text);
            int last = -1;
            for (int k = 0; k < x.frame(0, 0); k++) {
                int mate = x.peak(0, k, 4);
                CHECKS.dueTrue("mate " + mate + " of " + k + " in " + text, mate == NONE || mate > last);
                last = Math.max(last, mate);
            }
        }
        dueJoined("frame 909;frame 090;reach 20;", 0, NONE);
        dueJoined("frame 090;frame 909;reach 20;", 0);
    }

    /** "Of a FRAME: 0 .. 4 .. BAD." */
    private static void frameOfWhatIsNotThere() {
        for (Stand stand : Stand.values()) {
            FollowedPeaks x = stand.object();
            int frames = x.count(0);
            for (int what = 0; what <= 4; what++) {
                due(stand + ": frame(-1, " + what + ")", x.frame(-1, what), BAD);
                due(stand + ": frame(frames, " + what + ")", x.frame(frames, what), BAD);
                due(stand + ": frame(8, " + what + ")", x.frame(8, what), BAD);
                CHECKS.dueTrue(stand + ": frame(0, " + what + ")", x.frame(0, what) >= 0);
                CHECKS.dueTrue(stand + ": frame(last, " + what + ")", x.frame(frames - 1, what) >= 0);
            }
            due(stand + ": frame(0, -1)", x.frame(0, -1), BAD);
            due(stand + ": frame(0, 5)", x.frame(0, 5), BAD);
            for (int far : Bounds.FAR) {
                due(stand + ": frame(" + far + ", 0)", x.frame(far, 0), BAD);
                due(stand + ": frame(0, " + far + ")", x.frame(0, far), BAD);
            }
        }
    }

    private static void framesOfNoPeaks() {
        FollowedPeaks x = Checks.told("frame 090;frame 000;frame 090;least 2;");
        int[][] want = {{1, 0, 9, 1, 1}, {0, 0, 0, 0, 0}, {1, 0, 9, 1, 1}};
        for (int f = 0; f < want.length; f++) {
            for (int what = 0; what <= 4; what++) {
                due("frame(" + f + ", " + what + ")", x.frame(f, what), want[f][what]);
            }
        }
    }

    /** "TRACKS that are born there", "TRACKS that end there": all of the first, all of the last. */
    private static void bornInTheFirstEndingInTheLast() {
        for (int frames = 1; frames <= 8; frames++) {
            FollowedPeaks x = Checks.told("frame909;".repeat(frames));
            for (int f = 0; f < frames; f++) {
                due("born in " + f + " of " + frames, x.frame(f, 3), f == 0 ? 2 : 0);
                due("ending in " + f + " of " + frames, x.frame(f, 4), f == frames - 1 ? 2 : 0);
            }
        }
        // Short tracks, which are not kept, are born and end all the same.
        FollowedPeaks x = Checks.told("frame 900;frame 009;least 8;");
        for (int f = 0; f < 2; f++) {
            due("born in " + f, x.frame(f, 3), 1);
            due("ending in " + f, x.frame(f, 4), 1);
        }
    }

    /** "PITCH of a TRACK in a FRAME .. NO: BAD." */
    private static void pitchOfWhatIsNotThere() {
        for (Stand stand : Stand.values()) {
            FollowedPeaks x = stand.object();
            int frames = x.count(0);
            int tracks = x.count(5);
            for (int f = 0; f < frames; f++) {
                due(stand + ": pitch(-1, " + f + ")", x.pitch(-1, f), NO);
                due(stand + ": pitch(tracks, " + f + ")", x.pitch(tracks, f), NO);
                due(stand + ": pitch(48, " + f + ")", x.pitch(48, f), NO);
            }
            for (int n = 0; n < tracks; n++) {
                due(stand + ": pitch(" + n + ", -1)", x.pitch(n, -1), NO);
                due(stand + ": pitch(" + n + ", frames)", x.pitch(n, frames), NO);
                due(stand + ": pitch(" + n + ", 8)", x.pitch(n, 8), NO);
            }
            for (int far : Bounds.FAR) {
                due(stand + ": pitch(" + far + ", 0)", x.pitch(far, 0), NO);
                due(stand + ": pitch(0, " + far + ")", x.pitch(0, far), NO);
            }
        }
    }

    /** "NONE: it has no PEAK there." */
    private static void pitchAheadOfBirthAndBehindTheEnd() {
        FollowedPeaks x = Checks.told("frame000;frame090;frame091;frame090;frame000;frame000;frame000;frame009;");
        int[] first = {NONE, 4, 5, 4, NONE, NONE, NONE, NONE};
        for (int f = 0; f < 8; f++) {
            due("pitch(0, " + f + ")", x.pitch(0, f), first[f]);
            due("pitch(1, " + f + ")", x.pitch(1, f), f == 7 ? 8 : NONE);
        }
        due("pitch 0 is one too", Checks.told("frame 900;").pitch(0, 0), 0);
    }

    /** "BEST REACH (what = 0), how many TRACKS there are by it (1). BAD." */
    private static void bestOfTwo() {
        BOUNDS.refusedEverywhere("best(-1)", x -> x.best(-1), BAD);
        BOUNDS.refusedEverywhere("best(2)", x -> x.best(2), BAD);
        for (int far : Bounds.FAR) {
            BOUNDS.refusedEverywhere("best(" + far + ")", x -> x.best(far), BAD);
        }
    }

    private static void dueBest(String text, int reach, int tracks) {
        FollowedPeaks x = Checks.told(text);
        due("best(1) of " + text, x.best(1), tracks);
        due("best(0) of " + text, x.best(0), reach);
        due("best(1) again of " + text, x.best(1), tracks);
    }

    /** "the REACH (0 to 20)": two peaks so far apart, whatever REACH and LEAST are now. */
    private static void bestReachFrom0To20() {
        for (int apart = 0; apart <= 26; apart++) {
            String[] rows = rowsApart(apart);
            String text = "frame " + rows[0] + ";frame " + rows[1] + ";";
            int reach = apart <= 20 ? apart : 0;
            int tracks = apart <= 20 ? 1 : 2;
            dueBest(text, reach, tracks);
            dueBest(text + "reach 0;", reach, tracks);
            dueBest(text + "reach 20;least 8;", reach, tracks);
        }
    }

    private static void bestOfNoTracks() {
        dueBest("frame 000;", 0, 0);
        dueBest("frame 555;frame 555;floor 6;", 0, 0);
        dueBest("frame 000;".repeat(8), 0, 0);
        dueBest("frame 090;", 0, 1);
        dueBest("frame 90909090909;", 0, 6);
    }

    /** "of several the least" */
    private static void bestTheLeastOfSeveral() {
        // Two steps of 4 and one of 8: all joined by 8, some by 4.
        dueBest("frame 90000;frame 09000;frame 00900;frame 00009;", 8, 1);
        dueBest("frame 90000;frame 09000;frame 00900;", 4, 1);
        // A larger reach joins the lower pair too, but no more than by 0 can be.
        dueBest("frame 90009;frame 00009;", 0, 2);
        dueBest("frame 90009;frame 90000;frame 90009;", 0, 3);
        dueBest("frame91929394959;frame90909090909;".repeat(4), 1, 6);
    }

    /** Asked ahead of each change, so that no earlier answer is given again. */
    private static void bestBehindEachChange() {
        FollowedPeaks x = Checks.told("frame 9000;frame 0050;");
        due("told", x.best(0), 8);
        x.levels(1, 3, 6);
        due("behind levels", x.best(0), 11);
        x.undo();
        due("behind undo", x.best(0), 8);
        x.keep(0);
        x.sets(0, 6);
        due("behind a floor: reach", x.best(0), 0);
        due("behind a floor: tracks", x.best(1), 1);
        Checks.tell(x, "frame 909;frame 090;");
        due("behind tells: reach", x.best(0), 4);
        due("behind tells: tracks", x.best(1), 2);
        x.back(0);
        due("behind back: reach", x.best(0), 8);
        due("behind back: tracks", x.best(1), 1);
        x.sets(1, 0);
        due("behind another reach", x.best(0), 8);
    }

    /** "0 FRAMES .. 10 how many may be UNDONE. BAD." */
    private static void countOfEleven() {
        BOUNDS.refusedEverywhere("count(-1)", x -> x.count(-1), BAD);
        BOUNDS.refusedEverywhere("count(11)", x -> x.count(11), BAD);
        for (int far : Bounds.FAR) {
            BOUNDS.refusedEverywhere("count(" + far + ")", x -> x.count(far), BAD);
        }
        CHECKS.dueCounts("in use", Stand.IN_USE.object(), 3, 4, 1, 5, 1, 3, 3, 0, 2, 17, 3);
        FollowedPeaks full = Stand.FULL.object();
        int[] whats = {0, 1, 2, 3, 4, 8, 9, 10};
        int[] counts = {8, 11, 2, 6, 3, 6, 140, 6};
        for (int i = 0; i < whats.length; i++) {
            due("full: count(" + whats[i] + ")", full.count(whats[i]), counts[i]);
        }
    }

    /** "7 the most LONG TRACK (the lowest of several; NONE)" */
    private static void countTheMostLong() {
        dueMostLong("frame 000;", NONE);
        dueMostLong("frame 111;floor 2;", NONE);
        dueMostLong("frame 090;", 0);
        dueMostLong("frame 909;", 0);
        dueMostLong("frame 909;frame 909;", 0);
        dueMostLong("frame 909;frame 009;", 1);
        dueMostLong("frame 909;frame 900;", 0);
        dueMostLong("frame 900;frame 009;frame 009;reach 0;", 1);
        dueMostLong("frame 900;frame 900;frame 009;frame 009;reach 0;", 0);
        dueMostLong("frame 900;frame 000;frame 009;frame 009;least 8;", 1);
        dueMostLong("frame000;frame090;frame090;frame090;frame090;frame090;frame090;frame090;", 0);
        dueMostLong("frame909;frame009;frame009;frame009;frame009;frame009;frame009;frame009;", 1);
    }

    private static void dueMostLong(String text, int want) {
        due("count(7) of " + text, Checks.told(text).count(7), want);
    }

    /** Each number that has a limit, from its least to its most. */
    private static void countFromEmptyToFull() {
        FollowedPeaks x = new FollowedPeaks();
        for (int n = 0; n <= 8; n++) {
            due("known of " + n, x.count(10), Math.min(n, 6));
            due("seen of " + n, x.count(8), Math.min(n, 6));
            x.levels(0, 0, n + 1);
            x.sees(0, n);
        }
        x = Checks.told("frame90909090909;frame91929394959;".repeat(4));
        CHECKS.dueCounts("six tracks", x, 8, 11, 1, 4, 1, 6, 6, 0);
        x.sets(1, 0);
        CHECKS.dueCounts("48 tracks", x, 8, 11, 1, 0, 1, 48, 48, 0);
        x.sets(2, 2);
        CHECKS.dueCounts("48 tracks, none kept", x, 8, 11, 1, 0, 2, 48, 0, 0);
        due("the last of 48", x.track(47, 0), 7);
        due("no more than 48", x.track(48, 0), NO);
    }
}
