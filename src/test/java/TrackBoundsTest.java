/** The boundary cases of tracks: promise 11, and SUM and LOST, which hang on what is kept. */
public final class TrackBoundsTest {
    private static final int NO = Bounds.NO;
    private static final Checks CHECKS = new Checks("TrackBoundsTest");
    private static final Bounds BOUNDS = new Bounds(CHECKS);

    public static void main(String[] args) {
        tracksThatAreThere();
        questionsThatAreThere();
        longFrom1To8();
        keptAtLeastOrMore();
        numberedByFrameThenPitch();
        depthOfOneAndOfMany();
        turnsOverStepsOf0();
        steadyAtDepth1();
        glideWithoutATurn();
        vibratoAtHalf();
        worthBelow0();
        sumAndLost();
        CHECKS.end();
    }

    private static void due(String call, long got, long want) {
        CHECKS.due(call, got, want);
    }

    /** "NO: BAD.": tracks 0 to the last. */
    private static void tracksThatAreThere() {
        for (Stand stand : Stand.values()) {
            FollowedPeaks x = stand.object();
            int tracks = x.count(5);
            for (int what = 0; what <= 7; what++) {
                due(stand + ": track(-1, " + what + ")", x.track(-1, what), NO);
                due(stand + ": track(tracks, " + what + ")", x.track(tracks, what), NO);
                due(stand + ": track(48, " + what + ")", x.track(48, what), NO);
                if (tracks > 0) {
                    CHECKS.dueTrue(stand + ": track(0, " + what + ")", x.track(0, what) != NO);
                    CHECKS.dueTrue(stand + ": track(last, " + what + ")", x.track(tracks - 1, what) != NO);
                }
            }
        }
        BOUNDS.refusedEverywhere("track(-1, 0)", x -> x.track(-1, 0), NO);
        BOUNDS.refusedEverywhere("track(48, 0)", x -> x.track(48, 0), NO);
        for (int far : Bounds.FAR) {
            BOUNDS.refusedEverywhere("track(" + far + ", 0)", x -> x.track(far, 0), NO);
        }
    }

    /** "0 the FRAME .. 7 its first PITCH" */
    private static void questionsThatAreThere() {
        BOUNDS.refusedEverywhere("track(0, -1)", x -> x.track(0, -1), NO);
        BOUNDS.refusedEverywhere("track(0, 8)", x -> x.track(0, 8), NO);
        for (int far : Bounds.FAR) {
            BOUNDS.refusedEverywhere("track(0, " + far + ")", x -> x.track(0, far), NO);
        }
        dueTrack("frame 001;frame 090;", 0, 0, 2, 1, 4, 0, 1, 16, 8);
    }

    private static void dueTrack(String text, int n, int... want) {
        FollowedPeaks x = Checks.told(text);
        for (int what = 0; what < want.length; what++) {
            due("track(" + n + ", " + what + ") of " + text, x.track(n, what), want[what]);
        }
        // Followed once more, nothing of what was followed earlier is counted again.
        x.sets(1, x.count(3) == 0 ? 1 : 0);
        x.undo();
        for (int what = 0; what < want.length; what++) {
            due("track(" + n + ", " + what + ") again, of " + text, x.track(n, what), want[what]);
        }
    }

    /** "born in the FRAME of its first PEAK, LONG as many PEAKS as it has": each birth, each end. */
    private static void longFrom1To8() {
        for (int born = 0; born < 8; born++) {
            for (int end = born; end < 8; end++) {
                int length = end - born + 1;
                String text = "frame000;".repeat(born) + "frame050;".repeat(length) + "frame000;".repeat(7 - end);
                dueTrack(text, 0, born, length, 1, 0, 0, 0, 5 * length, 4);
                FollowedPeaks x = Checks.told(text);
                due("one track of " + text, x.count(5), 1);
                for (int f = 0; f < 8; f++) {
                    due("pitch(0, " + f + ") of " + text, x.pitch(0, f), f >= born && f <= end ? 4 : Bounds.NONE);
                    due("born in " + f + " of " + text, x.frame(f, 3), f == born ? 1 : 0);
                    due("ending in " + f + " of " + text, x.frame(f, 4), f == end ? 1 : 0);
                }
            }
        }
    }

    /** "A TRACK is KEPT if it is LEAST or more LONG." Each length by each least, by text and by sets. */
    private static void keptAtLeastOrMore() {
        for (int length = 1; length <= 8; length++) {
            String frames = "frame050;".repeat(length) + "frame000;".repeat(8 - length);
            for (int least = 1; least <= 8; least++) {
                int kept = length >= least ? 1 : 0;
                dueKept(Checks.told(frames + "least " + least + ";"), length + " long, least " + least, length, kept);
                FollowedPeaks x = Checks.told(frames);
                x.sets(2, least);
                dueKept(x, length + " long, least set to " + least, length, kept);
            }
        }
    }

    private static void dueKept(FollowedPeaks x, String name, int length, int kept) {
        due(name + ": track(0, 2)", x.track(0, 2), kept);
        due(name + ": count(5)", x.count(5), 1);
        due(name + ": count(6)", x.count(6), kept);
        due(name + ": SUM", x.frame(length - 1, 1), 5 * kept);
        due(name + ": LOST", x.frame(length - 1, 2), 5 - 5 * kept);
    }

    /** "numbered by the FRAME in which they are born, then by PITCH" */
    private static void numberedByFrameThenPitch() {
        FollowedPeaks x = Checks.told("frame 0000900;frame 9000909;frame 9090909;reach 0;");
        int[][] bornAndPitch = {{0, 16}, {1, 0}, {1, 24}, {2, 8}};
        due("tracks", x.count(5), bornAndPitch.length);
        for (int n = 0; n < bornAndPitch.length; n++) {
            due("born of " + n, x.track(n, 0), bornAndPitch[n][0]);
            due("first pitch of " + n, x.track(n, 7), bornAndPitch[n][1]);
        }
        int[] ofPeaks = {1, 3, 0, 2};
        for (int k = 0; k < ofPeaks.length; k++) {
            due("track of peak " + k + " in the last frame", x.peak(2, k, 3), ofPeaks[k]);
        }
    }

    /** "DEPTH of a TRACK: its greatest PITCH less its least." */
    private static void depthOfOneAndOfMany() {
        // One peak: no depth, no turn, steady.
        dueTrack("frame 000000000009;", 0, 0, 1, 1, 0, 0, 0, 9, 44);
        // The greatest and the least stand in the midst.
        dueTrack("frame 009000;frame 900000;frame 000009;frame 000900;reach 20;", 0, 0, 4, 1, 20, 2, 2, 88, 8);
        // From the lowest pitch to the highest there is.
        dueTrack("frame900000000000;frame000009000000;frame000000000090;frame000000000009;reach 20;",
            0, 0, 4, 1, 44, 0, 1, 28, 0);
    }

    /** "of its steps .. that are not 0, how many have the other sign than the one ahead of them" */
    private static void turnsOverStepsOf0() {
        // Up, 0, down: a turn. Up, 0, up: none. 0 first, 0 last: none.
        dueTrack("frame 0900;frame 0090;frame 0090;frame 0900;", 0, 0, 4, 1, 4, 1, 2, 104, 4);
        dueTrack("frame 0900;frame 0090;frame 0090;frame 0009;", 0, 0, 4, 1, 8, 0, 1, 64, 4);
        dueTrack("frame 0900;frame 0900;frame 0090;frame 0090;", 0, 0, 4, 1, 4, 0, 1, 68, 4);
        dueTrack("frame 0090;frame 0090;frame 0900;frame 0900;", 0, 0, 4, 1, 4, 0, 1, 68, 8);
        // A turn by a quarter is one.
        dueTrack("frame 0900;frame 0920;frame 0900;", 0, 0, 3, 1, 1, 1, 0, 26, 4);
        // The most turns: seven steps, each the other way.
        dueTrack("frame090;frame009;".repeat(4), 0, 0, 8, 1, 4, 6, 2, 212, 4);
    }

    /** "0 STEADY, if DEPTH is 1 at most" */
    private static void steadyAtDepth1() {
        dueTrack("frame 090;frame 090;", 0, 0, 2, 1, 0, 0, 0, 18, 4);
        dueTrack("frame 090;frame 091;", 0, 0, 2, 1, 1, 0, 0, 17, 4);
        dueTrack("frame 090;frame 190;", 0, 0, 2, 1, 1, 0, 0, 17, 4);
        dueTrack("frame 090;frame 091;frame 090;frame 091;", 0, 0, 4, 1, 1, 2, 0, 35, 4);
        dueTrack("frame 190;frame 091;", 0, 0, 2, 1, 2, 0, 1, 34, 3);
        dueTrack("frame 091;frame 190;", 0, 0, 2, 1, 2, 0, 1, 34, 5);
        dueTrack("frame 190;frame 090;frame 091;", 0, 0, 3, 1, 2, 0, 1, 52, 3);
        dueTrack("frame 190;frame 091;frame 190;", 0, 0, 3, 1, 2, 1, 2, 79, 3);
    }

    /** "else 1 GLIDE, if there is no TURN" */
    private static void glideWithoutATurn() {
        dueTrack("frame 900;frame 090;frame 009;", 0, 0, 3, 1, 8, 0, 1, 46, 0);
        dueTrack("frame 009;frame 090;frame 900;", 0, 0, 3, 1, 8, 0, 1, 46, 8);
        dueTrack("frame 900;frame 090;frame 009;frame 090;", 0, 0, 4, 1, 8, 1, 3, 136, 0);
    }

    /** "else 2 VIBRATO, if TURNS are half of its steps that are not 0 or more; else 3 OTHER." */
    private static void vibratoAtHalf() {
        // 1 of 2, 1 of 3, 2 of 4, 2 of 5, 3 of 6, 3 of 7.
        dueTrack("frame 900;frame 090;frame 900;", 0, 0, 3, 1, 4, 1, 2, 77, 0);
        dueTrack("frame 9000;frame 0900;frame 0090;frame 0900;", 0, 0, 4, 1, 8, 1, 3, 136, 0);
        dueTrack("frame900;frame090;frame009;frame090;frame009;", 0, 0, 5, 1, 8, 2, 2, 127, 0);
        dueTrack("frame9000;frame0900;frame0090;frame0900;frame0090;frame0009;", 0, 0, 6, 1, 12, 2, 3, 204, 0);
        dueTrack("frame900;frame090;frame009;frame090;frame009;frame090;frame900;", 0, 0, 7, 1, 8, 3, 2, 181, 0);
        dueTrack("frame9000;frame0900;frame0090;frame0900;frame0090;frame0900;frame0090;frame0009;",
            0, 0, 8, 1, 12, 4, 2, 204, 0);
        dueTrack("frame9000;frame0900;frame0090;frame0900;frame9000;frame0900;frame0090;frame0900;",
            0, 0, 8, 1, 8, 3, 3, 280, 0);
        // Steps of 0 are not among them: 1 turn of 2 steps, with three of 0; 1 of 3, with one of 0.
        dueTrack("frame900;frame900;frame090;frame090;frame090;frame900;", 0, 0, 6, 1, 4, 1, 2, 158, 0);
        dueTrack("frame9000;frame0900;frame0900;frame0090;frame0900;", 0, 0, 5, 1, 8, 1, 3, 172, 0);
    }

    /** "LOUD of all its PEAKS together, times the number of its KIND and 1, less DEPTH": it may be below 0. */
    private static void worthBelow0() {
        dueWorth("frame 1000;frame 0001;reach 20;", -8);
        dueWorth("frame 100;frame 002;reach 20;", -2);
        dueWorth("frame 1000;frame 0010;frame 0001;reach 20;", -6);
        dueWorth("frame 100000;frame 000001;frame 000001;reach 20;", -14);
        dueWorth("frame 100;frame 003;reach 20;", 0);
        dueWorth("frame 30000;frame 02100;frame 30010;reach 8;", 19);
        dueWorth("frame100000000000;frame000001000000;frame000000000010;frame000000000001;reach 20;", -36);
        dueWorth("frame 900000000;frame 000009000;frame 000000009;reach 20;", 22);
        // The most there is: eight peaks of 9, of kind 3, as shallow as that kind can be.
        dueWorth("frame9000;frame0900;frame0090;frame0900;frame9000;frame0900;frame0090;frame0900;", 280);
    }

    private static void dueWorth(String text, int want) {
        due("WORTH of track 0 in " + text, Checks.told(text).track(0, 6), want);
    }

    /** "SUM of a FRAME: LOUD of its PEAKS that are of KEPT TRACKS, together; LOST: of the others." */
    private static void sumAndLost() {
        String frames = "frame 90807;frame 60500;frame 40000;reach 0;";
        // Tracks of 3, 2 and 1 peaks.
        int[][][] sums = {{{24, 0}, {11, 0}, {4, 0}}, {{17, 7}, {11, 0}, {4, 0}}, {{9, 15}, {6, 5}, {4, 0}},
            {{0, 24}, {0, 11}, {0, 4}}};
        for (int least = 1; least <= 4; least++) {
            FollowedPeaks x = Checks.told(frames + "least " + least + ";");
            for (int f = 0; f < 3; f++) {
                due("SUM of " + f + ", least " + least, x.frame(f, 1), sums[least - 1][f][0]);
                due("LOST of " + f + ", least " + least, x.frame(f, 2), sums[least - 1][f][1]);
            }
        }
        FollowedPeaks full = Checks.told("frame 909090909090;");
        due("the most SUM", full.frame(0, 1), 54);
        full.sets(2, 2);
        due("the most LOST", full.frame(0, 2), 54);
        due("no SUM", full.frame(0, 1), 0);
    }
}
