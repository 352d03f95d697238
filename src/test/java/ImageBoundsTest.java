/** The boundary cases of images: promises 18 and 19. */
public final class ImageBoundsTest {
    private static final int BAD = Bounds.BAD, STATE = Bounds.STATE;
    private static final Checks CHECKS = new Checks("ImageBoundsTest");
    private static final Bounds BOUNDS = new Bounds(CHECKS);

    public static void main(String[] args) {
        imagesAre0And1();
        imagesThatWereNotKept();
        badAheadOfStateInBack();
        keepChangesTheImageAlone();
        backLeavesTextSeenAndImages();
        nothingIsUndoneBehindBack();
        refusedBackLeavesWhatMayBeUndone();
        theLaterImageIsKept();
        imagesHaveAllSettings();
        imagesStayAsTheyWere();
        imagesOfTheSmallestAndTheLargest();
        backAgainAndAgain();
        CHECKS.end();
    }

    private static void due(String call, long got, long want) {
        CHECKS.due(call, got, want);
    }

    /** "IMAGES 0, 1", "BAD" */
    private static void imagesAre0And1() {
        for (int image : new int[] {-2, -1, 2, 3}) {
            BOUNDS.refusedEverywhere("keep(" + image + ")", x -> x.keep(image), BAD);
            BOUNDS.refusedEverywhere("back(" + image + ")", x -> x.back(image), BAD);
        }
        for (int far : Bounds.FAR) {
            BOUNDS.refusedEverywhere("keep(" + far + ")", x -> x.keep(far), BAD);
            BOUNDS.refusedEverywhere("back(" + far + ")", x -> x.back(far), BAD);
        }
    }

    /** "STATE: none was kept." */
    private static void imagesThatWereNotKept() {
        BOUNDS.refused(Stand.NEW, "back(0)", x -> x.back(0), STATE);
        BOUNDS.refused(Stand.NEW, "back(1)", x -> x.back(1), STATE);
        BOUNDS.refused(Stand.IN_USE, "back(1)", x -> x.back(1), STATE);
        FollowedPeaks x = new FollowedPeaks();
        due("keep(1)", x.keep(1), 1);
        due("back(0)", x.back(0), STATE);
        due("back(1)", x.back(1), 1);
        FollowedPeaks other = new FollowedPeaks();
        due("another object's keep is not this one's", other.back(1), STATE);
    }

    /** "the first of these that is so: BAD, STATE": with no image kept at all. */
    private static void badAheadOfStateInBack() {
        FollowedPeaks x = new FollowedPeaks();
        due("back(2) with none kept", x.back(2), BAD);
        due("back(-1) with none kept", x.back(-1), BAD);
        due("keep(2)", x.keep(2), BAD);
        due("back(0) behind a refused keep", x.back(0), STATE);
        due("back(1) behind a refused keep", x.back(1), STATE);
    }

    /** "keep all that 1 tells but THE TEXT; nothing else" */
    private static void keepChangesTheImageAlone() {
        BOUNDS.changesOnly(Stand.NEW, "keep(0)", x -> x.keep(0), 1, Portrait.IMAGE0);
        BOUNDS.changesOnly(Stand.NEW, "keep(1)", x -> x.keep(1), 1, Portrait.IMAGE1);
        BOUNDS.changesOnly(Stand.IN_USE, "keep(0)", x -> x.keep(0), 3, Portrait.IMAGE0);
        BOUNDS.changesOnly(Stand.IN_USE, "keep(1)", x -> x.keep(1), 3, Portrait.IMAGE1);
        BOUNDS.changesOnly(Stand.FULL, "keep(0)", x -> x.keep(0), 8, Portrait.IMAGE0);
        BOUNDS.changesOnly(Stand.FULL, "keep(1)", x -> x.keep(1), 8, Portrait.IMAGE1);
        for (Stand stand : Stand.values()) {
            BOUNDS.changesAll(stand, "keep(0)", x -> x.keep(0), Portrait.IMAGE0);
            BOUNDS.changesAll(stand, "keep(1)", x -> x.keep(1), Portrait.IMAGE1);
        }
    }

    private static void backLeavesTextSeenAndImages() {
        String[] changed = {Portrait.SCENE, Portrait.UNDO, Portrait.WHICH};
        BOUNDS.changesOnly(Stand.IN_USE, "back(0)", x -> x.back(0), 3, changed);
        BOUNDS.changesOnly(Stand.FULL, "back(0)", x -> x.back(0), 8, changed);
        BOUNDS.changesOnly(Stand.FULL, "back(1)", x -> x.back(1), 8, changed);
        BOUNDS.changesAll(Stand.FULL, "back(0)", x -> x.back(0), Portrait.SCENE, Portrait.UNDO);
        BOUNDS.changesAll(Stand.FULL, "back(1)", x -> x.back(1), Portrait.SCENE, Portrait.UNDO);
    }

    /** "(nothing can be UNDONE behind back())" */
    private static void nothingIsUndoneBehindBack() {
        for (int done = 0; done <= 8; done++) {
            FollowedPeaks x = new FollowedPeaks();
            x.keep(0);
            for (int level = 1; level <= done; level++) {
                x.levels(0, 0, level);
            }
            due("known ahead of back", x.count(10), Math.min(done, 6));
            due("back(0)", x.back(0), 1);
            due("known behind back", x.count(10), 0);
            due("undo behind back", x.undo(), STATE);
            due("level behind back", x.level(0, 0), 0);
            x.levels(0, 0, 9);
            due("known behind the next change", x.count(10), 1);
            due("undo of the next change", x.undo(), 0);
            due("level as back made it", x.level(0, 0), 0);
            due("no more", x.undo(), STATE);
        }
        // Even if the image has just what is there.
        FollowedPeaks x = Checks.told("frame 909;");
        x.keep(1);
        due("back to the same", x.back(1), 1);
        due("undo", x.undo(), STATE);
    }

    private static void refusedBackLeavesWhatMayBeUndone() {
        FollowedPeaks x = Checks.told("frame 909;frame 090;");
        x.back(0);
        x.back(2);
        x.back(-1);
        due("known", x.count(10), 1);
        due("undo", x.undo(), 0);
        due("frames", x.count(0), 1);
    }

    private static void theLaterImageIsKept() {
        FollowedPeaks x = Checks.told("frame 111;");
        due("keep(0)", x.keep(0), 1);
        Checks.tell(x, "frame 2222;frame 2222;");
        due("keep(0) again", x.keep(0), 2);
        Checks.tell(x, "frame 33333;frame 33333;frame 33333;");
        due("back(0)", x.back(0), 2);
        CHECKS.dueCounts("the later", x, 2, 4);
        due("level", x.level(1, 3), 2);
    }

    private static void imagesHaveAllSettings() {
        for (int what = 0; what < 3; what++) {
            FollowedPeaks x = new FollowedPeaks();
            x.sets(what, 8);
            x.keep(0);
            x.sets(what, 7);
            x.keep(1);
            x.sets(what, 6);
            due("back(0)", x.back(0), 1);
            due("sets(" + what + ", 8) as image 0 has it", x.count(2 + what), 8);
            due("back(1)", x.back(1), 1);
            due("sets(" + what + ", 7) as image 1 has it", x.count(2 + what), 7);
        }
        FollowedPeaks x = Checks.told("frame 0909;frame 9090;floor 9;reach 20;least 8;");
        x.keep(0);
        Checks.tell(x, "frame 000;");
        x.back(0);
        CHECKS.dueCounts("image 0", x, 2, 4, 9, 20, 8, 2, 0, 0);
        due("what was followed is found again", x.peak(0, 1, 4), 1);
        due("best is found again", x.best(0), 4);
    }

    private static void imagesStayAsTheyWere() {
        FollowedPeaks x = Checks.told("frame 123;");
        x.keep(0);
        x.keep(1);
        x.levels(0, 0, 9);
        x.sets(0, 5);
        x.keep(1);
        x.undo();
        x.undo();
        x.undo();
        due("back(0)", x.back(0), 1);
        due("image 0: level", x.level(0, 0), 1);
        due("image 0: floor", x.count(2), 1);
        x.levels(0, 1, 8);
        due("back(1)", x.back(1), 1);
        due("image 1: level", x.level(0, 0), 9);
        due("image 1: another level", x.level(0, 1), 2);
        due("image 1: floor", x.count(2), 5);
        x.levels(0, 0, 4);
        due("back(0) again", x.back(0), 1);
        due("image 0: level again", x.level(0, 0), 1);
        due("image 0: another level again", x.level(0, 1), 2);
    }

    private static void imagesOfTheSmallestAndTheLargest() {
        FollowedPeaks x = new FollowedPeaks();
        due("keep(0) of a new object", x.keep(0), 1);
        due("told", Checks.tell(x, "frame12345678909;".repeat(8)), 8);
        due("keep(1) of eight", x.keep(1), 8);
        due("back(0)", x.back(0), 1);
        CHECKS.dueCounts("image 0", x, 1, 3, 1, 4, 1, 0, 0, Bounds.NONE);
        due("frame 1 is not there", x.level(1, 0), BAD);
        due("place 3 is not there", x.level(0, 3), BAD);
        due("back(1)", x.back(1), 8);
        CHECKS.dueCounts("image 1", x, 8, 11, 1, 4, 1);
        for (int f = 0; f < 8; f++) {
            due("level(" + f + ", 0)", x.level(f, 0), 1);
            due("level(" + f + ", 10)", x.level(f, 10), 9);
        }
    }

    private static void backAgainAndAgain() {
        FollowedPeaks x = Checks.told("frame 909;");
        x.keep(0);
        for (int again = 0; again < 5; again++) {
            x.levels(0, 0, again);
            due("back(0)", x.back(0), 1);
            due("level", x.level(0, 0), 9);
        }
    }
}
