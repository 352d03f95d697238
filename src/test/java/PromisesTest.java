/** A test of each promise of the document: ordinary inputs, edges, wrong inputs. */
public final class PromisesTest {
    private static final int BAD = -1, STATE = -2, FULL = -3, NONE = -9, NO = -1000000;
    private static final int[] FAR = {Integer.MIN_VALUE, Integer.MAX_VALUE};
    private static final Checks CHECKS = new Checks("PromisesTest");

    public static void main(String[] args) {
        promise1NewObject();
        promise2Type();
        promise3Clear();
        promise4TellsWhatIsTold();
        promise4TellsFaults();
        promise4TellsFaultOrder();
        promise5Levels();
        promise6Sets();
        promise7Undo();
        promise7UndoLosesOlder();
        promise8Level();
        promise9PeakPlaces();
        promise9PeakPitches();
        promise9PeakJoined();
        promise9PeakWrong();
        promise10Frame();
        promise11TrackOrder();
        promise11TrackKinds();
        promise11TrackWrong();
        promise12Pitch();
        promise13Best();
        promise14Sees();
        promise15Forget();
        promise16Which();
        promise17Listen();
        promise18Keep();
        promise19Back();
        promise20Count();
        mostTracks();
        farNumbers();
        CHECKS.end();
    }

    private static void due(String call, long got, long want) {
        CHECKS.due(call, got, want);
    }

    private static void dueTells(String text, int want) {
        due("tells of '" + text + "'", Checks.tell(new FollowedPeaks(), text), want);
    }

    private static void promise1NewObject() {
        FollowedPeaks x = new FollowedPeaks();
        int[] counts = {1, 3, 1, 4, 1, 0, 0, NONE, 0, 0, 0};
        for (int what = 0; what < counts.length; what++) {
            due("1 count(" + what + ")", x.count(what), counts[what]);
        }
        for (int place = 0; place < 3; place++) {
            due("1 level(0, " + place + ")", x.level(0, place), 0);
        }
        due("1 frame(0, 0)", x.frame(0, 0), 0);
        due("1 back(0)", x.back(0), STATE);
        due("1 back(1)", x.back(1), STATE);
        due("1 undo", x.undo(), STATE);
    }

    private static void promise2Type() {
        FollowedPeaks x = new FollowedPeaks();
        due("2 type(-1)", x.type(-1), BAD);
        due("2 type(256)", x.type(256), BAD);
        due("2 type(0)", x.type(0), 1);
        due("2 type(255)", x.type(255), 2);
        for (int n = 3; n <= 140; n++) {
            due("2 letter " + n, x.type('a'), n);
        }
        due("2 letter 141", x.type('a'), FULL);
        due("2 BAD ahead of FULL", x.type(256), BAD);
        due("2 count(9)", x.count(9), 140);
        x.clear();
        due("2 after clear", x.type('b'), 1);
    }

    private static void promise3Clear() {
        FollowedPeaks x = new FollowedPeaks();
        due("3 clear of none", x.clear(), 0);
        Checks.type(x, "frame 090;");
        due("3 clear of ten", x.clear(), 10);
        due("3 clear again", x.clear(), 0);
        due("3 count(9)", x.count(9), 0);
        due("3 tells of nothing", x.tells(), -10);
        Checks.type(x, "frame 900;");
        due("3 an older text is gone", x.tells(), 1);
        due("3 level", x.level(0, 0), 9);
    }

    private static void promise4TellsWhatIsTold() {
        FollowedPeaks x = new FollowedPeaks();
        due("4 items", Checks.tell(x, " floor 2 ;frame0987 ; reach 0;least 8;frame 0001;floor9; "), 6);
        int[] counts = {2, 4, 9, 0, 8};
        for (int what = 0; what < counts.length; what++) {
            due("4 count(" + what + ")", x.count(what), counts[what]);
        }
        due("4 level(0, 1)", x.level(0, 1), 9);
        due("4 level(0, 3)", x.level(0, 3), 7);
        due("4 level(1, 3)", x.level(1, 3), 1);
        due("4 text is empty", x.count(9), 0);
        due("4 told anew", Checks.tell(x, "frame 123456789012;"), 1);
        int[] anew = {1, 12, 1, 4, 1};
        for (int what = 0; what < anew.length; what++) {
            due("4 anew count(" + what + ")", x.count(what), anew[what]);
        }
        due("4 anew level(0, 11)", x.level(0, 11), 2);
        due("4 anew level(1, 0)", x.level(1, 0), BAD);
        due("4 eight frames", Checks.tell(x, "frame000;".repeat(8)), 8);
        due("4 reach 20", Checks.tell(x, "reach 20;frame 000;"), 2);
        due("4 count(3)", x.count(3), 20);
        due("4 reach 10", Checks.tell(x, "frame 000;reach 10;least 1;floor 1;"), 4);
        due("4 count(3)", x.count(3), 10);
        due("4 blanks inside", Checks.tell(x, "   frame    000    ;   "), 1);
    }

    private static void promise4TellsFaults() {
        dueTells("", -10);
        dueTells("   ", -13);
        dueTells("frame", -15);
        dueTells("frame ", -16);
        dueTells("frame 000", -19);
        dueTells("frame 000 ", -20);
        dueTells("floor 1;", -18);
        dueTells("floor 1; ", -19);
        dueTells("frame 00;", -16);
        dueTells("frame 00", -16);
        dueTells("frame 0000000000000;", -16);
        dueTells("frame000;frame 0000;", -25);
        dueTells("frame0000;frame 000;", -26);
        dueTells("frame 000;floor 0;", -26);
        dueTells("frame 000;floor 10;", -26);
        dueTells("frame 000;floor 01;", -26);
        dueTells("frame 000;reach 21;", -26);
        dueTells("frame 000;reach 00;", -26);
        dueTells("frame 000;reach 100;", -26);
        dueTells("frame 000;reach 020;", -26);
        dueTells("frame 000;least 0;", -26);
        dueTells("frame 000;least 9;", -26);
        dueTells("frame 000;least 12;", -26);
        dueTells("frame 000;reach;", -25);
        dueTells("frame 000;reach least;", -26);
        dueTells("frame 000 000;", -20);
        dueTells("frame 000 frame 000;", -20);
        dueTells("frame 000;;", -20);
        dueTells(";frame 000;", -10);
        dueTells("000;", -10);
        dueTells("frame ;", -16);
        dueTells("frame 000;frames 000;", -20);
        dueTells("frame 000;fram 000;", -20);
        dueTells("frame 000;ree", -20);
        dueTells("Frame 000;", -10);
        dueTells("brame 000;", -10);
        dueTells("framez 000;", -10);
        dueTells("aframe 000;", -10);
        dueTells("fRame 000;", -10);
        dueTells("frame 000;\t", -20);
        dueTells("frame 0-0;", -16);
        dueTells("frame 000:", -19);
        dueTells("frame 000" + (char) 187, -19);
        dueTells("frame 000" + (char) 0 + ";", -19);
        dueTells("frame{000;", -15);
        dueTells("frame`000;", -15);
        dueTells("frame 000/;", -19);
        dueTells("floorfloor 1;frame 000;", -10);
        dueTells("floor1floor2;", -16);
        dueTells("frame000;".repeat(8) + "frame000;", -82);
        dueTells("frame000;".repeat(8) + " frame", -83);
        dueTells("frame000;".repeat(8) + "floor 3;", 9);
    }

    private static void promise4TellsFaultOrder() {
        FollowedPeaks x = Checks.told("frame 090;floor 5;reach 7;least 2;");
        x.levels(0, 0, 3);
        Checks.type(x, "frame 1234;floor 3;least 1;reach 99;");
        due("4 fault", x.tells(), -10 - 33);
        due("4 text stays", x.count(9), 36);
        int[] counts = {1, 3, 5, 7, 2};
        for (int what = 0; what < counts.length; what++) {
            due("4 stays count(" + what + ")", x.count(what), counts[what]);
        }
        due("4 stays level", x.level(0, 0), 3);
        due("4 nothing more to undo", x.count(10), 2);
        due("4 fault again", x.tells(), -43);
        x.sees(0, 4);
        x.keep(1);
        due("4 told", Checks.tell(x, "frame 0000;"), 1);
        due("4 seen stays", x.count(8), 1);
        due("4 image stays", x.back(1), 1);
        due("4 image's B", x.count(1), 3);
    }

    private static void promise5Levels() {
        FollowedPeaks x = Checks.told("frame 0123;frame 4567;");
        due("5 levels(0, 0, 9)", x.levels(0, 0, 9), 0);
        due("5 level(0, 0)", x.level(0, 0), 9);
        due("5 levels(1, 3, 0)", x.levels(1, 3, 0), 7);
        due("5 level(1, 3)", x.level(1, 3), 0);
        due("5 level(0, 3)", x.level(0, 3), 3);
        due("5 same", x.levels(1, 3, 0), STATE);
        due("5 count(10)", x.count(10), 3);
        due("5 frame -1", x.levels(-1, 0, 1), BAD);
        due("5 frame 2", x.levels(2, 0, 1), BAD);
        due("5 place -1", x.levels(0, -1, 1), BAD);
        due("5 place 4", x.levels(0, 4, 1), BAD);
        due("5 level -1", x.levels(0, 0, -1), BAD);
        due("5 level 10", x.levels(0, 0, 10), BAD);
        due("5 nothing changed", x.count(10), 3);
        due("5 peaks follow", x.peak(0, 0, 2), 9);
    }

    private static void promise6Sets() {
        int[] lowest = {1, 0, 1};
        int[] highest = {9, 20, 8};
        int[] first = {1, 4, 1};
        for (int what = 0; what < 3; what++) {
            FollowedPeaks x = new FollowedPeaks();
            String call = "6 sets(" + what + ", ";
            due(call + "as it is)", x.sets(what, first[what]), STATE);
            due(call + "too low)", x.sets(what, lowest[what] - 1), BAD);
            due(call + "too high)", x.sets(what, highest[what] + 1), BAD);
            due(call + "nothing done)", x.count(10), 0);
            due(call + "highest)", x.sets(what, highest[what]), first[what]);
            due(call + "count)", x.count(2 + what), highest[what]);
            due(call + "lowest)", x.sets(what, lowest[what]), highest[what]);
            due(call + "count)", x.count(2 + what), lowest[what]);
            due(call + "done)", x.count(10), 2);
        }
        FollowedPeaks x = new FollowedPeaks();
        due("6 sets(3, 1)", x.sets(3, 1), BAD);
        due("6 sets(-1, 1)", x.sets(-1, 1), BAD);
    }

    private static void promise7Undo() {
        FollowedPeaks x = new FollowedPeaks();
        Checks.tell(x, "frame 0909;frame 9090;floor 3;");
        x.sets(0, 4);
        x.sets(1, 9);
        x.sets(2, 2);
        x.levels(1, 1, 5);
        x.sees(0, 4);
        Checks.type(x, "frame");
        due("7 undo levels", x.undo(), 4);
        due("7 level", x.level(1, 1), 0);
        due("7 undo least", x.undo(), 3);
        due("7 least", x.count(4), 1);
        due("7 undo reach", x.undo(), 2);
        due("7 reach", x.count(3), 4);
        due("7 undo floor", x.undo(), 1);
        due("7 floor", x.count(2), 3);
        due("7 undo tells", x.undo(), 0);
        due("7 frames", x.count(0), 1);
        due("7 B", x.count(1), 3);
        due("7 floor at first", x.count(2), 1);
        due("7 tracks", x.count(5), 0);
        due("7 text stays", x.count(9), 5);
        due("7 seen stays", x.count(8), 1);
        due("7 none left", x.undo(), STATE);
        x.clear();
        Checks.tell(x, "frame 000;");
        due("7 a text that tells the same is done", x.undo(), 0);
        x.levels(0, 0, 5);
        x.levels(0, 0, 5);
        x.levels(0, 0, 10);
        x.sets(0, 1);
        x.tells();
        due("7 what was refused is not known", x.undo(), 0);
    }

    private static void promise7UndoLosesOlder() {
        FollowedPeaks x = new FollowedPeaks();
        for (int level = 1; level <= 9; level++) {
            x.levels(0, 1, level);
            due("7 known", x.count(10), Math.min(level, 6));
        }
        for (int left = 5; left >= 0; left--) {
            due("7 undo", x.undo(), left);
            due("7 level", x.level(0, 1), left + 3);
        }
        due("7 older ones are lost", x.undo(), STATE);
        x.levels(0, 1, 7);
        due("7 undo later", x.undo(), 0);
        due("7 level later", x.level(0, 1), 3);
    }

    private static void promise8Level() {
        FollowedPeaks x = Checks.told("frame 012345678909;frame 987654321090;");
        due("8 level(0, 0)", x.level(0, 0), 0);
        due("8 level(0, 11)", x.level(0, 11), 9);
        due("8 level(1, 0)", x.level(1, 0), 9);
        due("8 level(1, 9)", x.level(1, 9), 0);
        due("8 frame -1", x.level(-1, 0), BAD);
        due("8 frame 2", x.level(2, 0), BAD);
        due("8 place -1", x.level(0, -1), BAD);
        due("8 place 12", x.level(0, 12), BAD);
    }

    private static void promise9PeakPlaces() {
        FollowedPeaks x = Checks.told("frame 555033200707;floor 3;");
        int[] places = {0, 4, 9, 11};
        int[] louds = {5, 3, 7, 7};
        due("9 how many", x.frame(0, 0), 4);
        for (int k = 0; k < places.length; k++) {
            due("9 place of " + k, x.peak(0, k, 0), places[k]);
            due("9 loud of " + k, x.peak(0, k, 2), louds[k]);
            due("9 track of " + k, x.peak(0, k, 3), k);
            due("9 joined of " + k, x.peak(0, k, 4), NONE);
        }
        x.sets(0, 4);
        due("9 floor leaves 3 out", x.peak(0, 1, 0), 9);
        Checks.tell(x, "frame 909090909090;");
        due("9 six peaks", x.frame(0, 0), 6);
        due("9 the last one", x.peak(0, 5, 0), 10);
    }

    private static void promise9PeakPitches() {
        duePitch("frame 900;", 0);
        duePitch("frame 910;", 1);
        duePitch("frame 191;", 4);
        duePitch("frame 192;", 5);
        duePitch("frame 291;", 3);
        duePitch("frame 009;", 8);
        duePitch("frame 019;", 7);
        duePitch("frame 099;", 5);
        duePitch("frame 000000000009;", 44);
        duePitch("frame 000000000089;", 43);
    }

    private static void duePitch(String text, int want) {
        FollowedPeaks x = Checks.told(text);
        due("9 pitch in " + text, x.peak(0, 0, 1), want);
        due("9 one peak in " + text, x.peak(0, 1, 1), NONE);
    }

    private static void promise9PeakJoined() {
        dueJoined("frame 00900;frame 90009;reach 8;", 0);
        dueJoined("frame 00900;frame 90009;reach 7;", NONE);
        dueJoined("frame 90090;frame 09000;reach 20;", 0, NONE);
        // Most pairs ahead of the nearest: 12 with 8 alone would be nearest.
        dueJoined("frame 000909;frame 909000;reach 20;", 0, 1);
        // The nearest of two ways with as many pairs.
        dueJoined("frame 0900009;frame 0000090;reach 20;", NONE, 0);
        // As many and as near: the lower peak of the first is paired.
        dueJoined("frame 90009;frame 00900;reach 8;", 0, NONE);
        // Three with two, both of the outer ways as near: the lower ones.
        dueJoined("frame 9000900090;frame 0090009000;reach 8;", 0, 1, NONE);
        dueJoined("frame 0090009000;frame 9000900090;reach 8;", 0, 1);
        dueJoined("frame 909;frame 000;frame 909;reach 20;", NONE, NONE);
        // Six with six, and five with six.
        dueJoined("frame 909090909090;frame 090909090909;reach 4;", 0, 1, 2, 3, 4, 5);
        dueJoined("frame 090909090900;frame 909090909090;reach 4;", 0, 1, 2, 3, 4);
        dueJoined("frame 909090909090;frame 090909090900;reach 4;", 0, 1, 2, 3, 4, NONE);
        // By quarters: 12 and 7 are 5 apart, 12 and 5 are 7 apart.
        dueJoined("frame 0009;frame 0290;reach 4;", NONE);
        dueJoined("frame 0009;frame 0290;reach 5;", 0);
        dueJoined("frame 0009;frame 0920;reach 6;", NONE);
        dueJoined("frame 0009;frame 0920;reach 7;", 0);
    }

    private static void dueJoined(String text, int... want) {
        FollowedPeaks x = Checks.told(text);
        due("9 peaks of " + text, x.frame(0, 0), want.length);
        for (int k = 0; k < want.length; k++) {
            due("9 joined " + k + " of " + text, x.peak(0, k, 4), want[k]);
            if (want[k] != NONE) {
                due("9 track of " + k + " in " + text, x.peak(1, want[k], 3), k);
            }
        }
    }

    private static void promise9PeakWrong() {
        FollowedPeaks x = Checks.told("frame 090;frame 909;");
        due("9 frame -1", x.peak(-1, 0, 0), NO);
        due("9 frame 2", x.peak(2, 0, 0), NO);
        due("9 k -1", x.peak(0, -1, 0), NO);
        due("9 what -1", x.peak(0, 0, -1), NO);
        due("9 what 5", x.peak(0, 0, 5), NO);
        due("9 not so many, what 5", x.peak(0, 1, 5), NO);
        for (int what = 0; what <= 4; what++) {
            due("9 not so many", x.peak(0, 1, what), NONE);
            due("9 not nearly so many", x.peak(1, Integer.MAX_VALUE, what), NONE);
        }
    }

    private static void promise10Frame() {
        FollowedPeaks x = Checks.told("frame 0905;frame 0806;frame 0700;frame 0001;least 3;");
        int[][] want = {{2, 9, 5, 2, 0}, {2, 8, 6, 0, 1}, {1, 7, 0, 0, 1}, {1, 0, 1, 1, 1}};
        dueFrames(x, want);
        x.sets(2, 1);
        dueFrames(x, new int[][] {{2, 14, 0, 2, 0}, {2, 14, 0, 0, 1}, {1, 7, 0, 0, 1}, {1, 1, 0, 1, 1}});
        x.sets(2, 4);
        dueFrames(x, new int[][] {{2, 0, 14, 2, 0}, {2, 0, 14, 0, 1}, {1, 0, 7, 0, 1}, {1, 0, 1, 1, 1}});
        due("10 frame -1", x.frame(-1, 0), BAD);
        due("10 frame 4", x.frame(4, 0), BAD);
        due("10 what -1", x.frame(0, -1), BAD);
        due("10 what 5", x.frame(0, 5), BAD);
    }

    private static void dueFrames(FollowedPeaks x, int[][] want) {
        for (int f = 0; f < want.length; f++) {
            for (int what = 0; what < want[f].length; what++) {
                due("10 frame(" + f + ", " + what + ")", x.frame(f, what), want[f][what]);
            }
        }
    }

    private static void promise11TrackOrder() {
        FollowedPeaks x = Checks.told("frame 0000090;frame 0900090;frame 0900009;reach 0;least 2;");
        int[][] want = {{0, 2, 1, 0, 0, 0, 18, 20}, {1, 2, 1, 0, 0, 0, 18, 4}, {2, 1, 0, 0, 0, 0, 9, 24}};
        for (int n = 0; n < want.length; n++) {
            for (int what = 0; what < 8; what++) {
                due("11 track(" + n + ", " + what + ")", x.track(n, what), want[n][what]);
            }
        }
        due("11 the second frame's lower peak is born later", x.peak(1, 0, 3), 1);
        due("11 the second frame's upper peak", x.peak(1, 1, 3), 0);
    }

    private static void promise11TrackKinds() {
        // Depth 0 and 1: steady, however often it turns.
        dueTrack("frame 090;frame 090;", 0, 0, 0, 18);
        dueTrack("frame 090;frame 091;frame 090;", 1, 1, 0, 26);
        // Depth 2: no longer steady.
        dueTrack("frame 190;frame 091;", 2, 0, 1, 34);
        dueTrack("frame 190;frame 091;frame 190;", 2, 1, 2, 79);
        // A step of 0 between is no step: up, 0, up, and up, 0, down.
        dueTrack("frame 090;frame 009;frame 009;frame 019;", 4, 1, 2, 104);
        dueTrack("frame 0900;frame 0090;frame 0090;frame 0009;", 8, 0, 1, 64);
        // Three steps with one turn: less than half.
        dueTrack("frame 09000;frame 00900;frame 00090;frame 00900;", 8, 1, 3, 136);
        // Four steps with two turns: just half.
        dueTrack("frame 0900;frame 0090;frame 0009;frame 0090;frame 0009;", 8, 2, 2, 127);
        // Two steps with one turn.
        dueTrack("frame 090;frame 009;frame 090;", 4, 1, 2, 77);
        // All eight frames, the last one too.
        dueTrack("frame090;".repeat(8), 0, 0, 0, 72);
        dueTrack("frame090;frame009;".repeat(4), 4, 6, 2, 212);
        // Downward all the way.
        dueTrack("frame 0009;frame 0050;frame 0100;", 8, 0, 1, 22);
    }

    private static void dueTrack(String text, int depth, int turns, int kind, int worth) {
        FollowedPeaks x = Checks.told(text);
        due("11 one track of " + text, x.count(5), 1);
        due("11 depth of " + text, x.track(0, 3), depth);
        due("11 turns of " + text, x.track(0, 4), turns);
        due("11 kind of " + text, x.track(0, 5), kind);
        due("11 worth of " + text, x.track(0, 6), worth);
        // Nothing of what was followed earlier is left in what is followed now.
        x.levels(0, 0, x.level(0, 0) == 9 ? 8 : 9);
        x.undo();
        due("11 turns again of " + text, x.track(0, 4), turns);
        due("11 worth again of " + text, x.track(0, 6), worth);
        Checks.tell(x, "frame 300;frame 000;frame 003;");
        due("11 another text behind " + text, x.track(0, 6), 3);
        due("11 its turns behind " + text, x.track(0, 4), 0);
        due("11 its second track behind " + text, x.track(1, 0), 2);
        due("11 its tracks behind " + text, x.count(5), 2);
    }

    private static void promise11TrackWrong() {
        FollowedPeaks x = Checks.told("frame 909;");
        due("11 n -1", x.track(-1, 0), NO);
        due("11 n 2", x.track(2, 0), NO);
        due("11 what -1", x.track(0, -1), NO);
        due("11 what 8", x.track(0, 8), NO);
        due("11 the last", x.track(1, 7), 8);
        due("11 of none", new FollowedPeaks().track(0, 0), NO);
    }

    private static void promise12Pitch() {
        FollowedPeaks x = Checks.told("frame 900;frame 091;frame 000;frame 009;");
        due("12 pitch(0, 0)", x.pitch(0, 0), 0);
        due("12 pitch(0, 1)", x.pitch(0, 1), NONE);
        due("12 pitch(1, 0)", x.pitch(1, 0), NONE);
        due("12 pitch(1, 1)", x.pitch(1, 1), 5);
        due("12 pitch(1, 2)", x.pitch(1, 2), NONE);
        due("12 pitch(2, 3)", x.pitch(2, 3), 8);
        due("12 n -1", x.pitch(-1, 0), NO);
        due("12 n 3", x.pitch(3, 0), NO);
        due("12 frame -1", x.pitch(0, -1), NO);
        due("12 frame 4", x.pitch(0, 4), NO);
        x.sets(1, 5);
        due("12 joined by reach 5", x.pitch(0, 1), 5);
    }

    private static void promise13Best() {
        dueBest("frame 000;", 0, 0);
        dueBest("frame 909;", 0, 2);
        dueBest("frame 909;frame 909;", 0, 2);
        dueBest("frame 090;frame 091;", 1, 1);
        dueBest("frame 190;frame 091;", 2, 1);
        dueBest("frame 900;frame 009;reach 3;", 8, 1);
        dueBest("frame 900000;frame 000009;", 20, 1);
        dueBest("frame 9000000;frame 0000009;", 0, 2);
        dueBest("frame 900000;frame 090000;frame 000009;", 16, 1);
        dueBest("frame 90009;frame 91000;frame 00009;floor 2;", 15, 2);
        FollowedPeaks x = Checks.told("frame 900;frame 009;least 8;");
        due("13 best ahead of a change", x.best(0), 8);
        due("13 nothing is changed", x.count(5), 2);
        due("13 reach is not changed", x.count(3), 4);
        due("13 joined is not changed", x.peak(0, 0, 4), NONE);
        x.levels(1, 1, 9);
        due("13 best behind a change", x.best(0), 5);
        x.undo();
        due("13 best behind undo", x.best(0), 8);
        x.sets(0, 9);
        x.levels(1, 2, 8);
        due("13 floor counts", x.best(1), 1);
        due("13 floor counts", x.best(0), 0);
        due("13 what -1", x.best(-1), BAD);
        due("13 what 2", x.best(2), BAD);
    }

    private static void dueBest(String text, int reach, int tracks) {
        FollowedPeaks x = Checks.told(text);
        due("13 best(0) of " + text, x.best(0), reach);
        due("13 best(1) of " + text, x.best(1), tracks);
    }

    private static void promise14Sees() {
        FollowedPeaks x = new FollowedPeaks();
        due("14 frame -1", x.sees(-1, 0), BAD);
        due("14 frame 8", x.sees(8, 0), BAD);
        due("14 pitch -2", x.sees(0, -2), BAD);
        due("14 pitch -8", x.sees(0, -8), BAD);
        due("14 pitch -10", x.sees(0, -10), BAD);
        due("14 pitch 46", x.sees(0, 46), BAD);
        due("14 none was seen", x.count(8), 0);
        due("14 first", x.sees(0, -1), 1);
        due("14 second", x.sees(7, 45), 2);
        due("14 third", x.sees(3, NONE), 3);
        due("14 the same again", x.sees(3, NONE), 4);
        due("14 fifth", x.sees(3, 4), 5);
        due("14 sixth", x.sees(3, 4), 6);
        due("14 seventh", x.sees(3, 4), FULL);
        due("14 BAD ahead of FULL", x.sees(8, 4), BAD);
        due("14 count(8)", x.count(8), 6);
    }

    private static void promise15Forget() {
        FollowedPeaks x = Checks.told("frame 900;");
        due("15 none", x.forget(), 0);
        x.sees(0, 4);
        x.sees(0, 5);
        due("15 which ahead", x.which(0), 0);
        due("15 two", x.forget(), 2);
        due("15 count(8)", x.count(8), 0);
        due("15 which behind", x.which(0), 1);
        due("15 again", x.forget(), 0);
    }

    private static void promise16Which() {
        FollowedPeaks x = new FollowedPeaks();
        due("16 of none", x.which(0), 0);
        due("16 lowest of none", x.which(1), NONE);
        Checks.tell(x, "frame 90909;frame 90900;frame 00900;least 8;");
        dueWhich(x, 3, 0);
        x.sees(1, NONE);
        dueWhich(x, 1, 2);
        x.forget();
        x.sees(2, NONE);
        dueWhich(x, 2, 0);
        x.sees(0, 16);
        dueWhich(x, 1, 2);
        x.sees(0, 0);
        dueWhich(x, 0, NONE);
        x.forget();
        x.sees(7, NONE);
        dueWhich(x, 3, 0);
        x.sees(1, 8);
        dueWhich(x, 1, 1);
        x.sees(6, 8);
        dueWhich(x, 0, NONE);
        x.forget();
        x.sees(0, 8);
        x.levels(0, 2, 0);
        dueWhich(x, 0, NONE);
        due("16 what -1", x.which(-1), BAD);
        due("16 what 2", x.which(2), BAD);
    }

    private static void dueWhich(FollowedPeaks x, int many, int lowest) {
        due("16 which(0)", x.which(0), many);
        due("16 which(1)", x.which(1), lowest);
    }

    private static void promise17Listen() {
        FollowedPeaks x = new FollowedPeaks();
        due("17 of none", x.listen(), NONE);
        Checks.tell(x, "frame 900;");
        due("17 of one", x.listen(), NONE);
        Checks.tell(x, "frame 909;frame 909;reach 0;");
        due("17 of two, the earliest", x.listen(), 0);
        // Four tracks; the second frame has three of them.
        Checks.tell(x, "frame 9000000;frame 9009009;frame 0000900;reach 0;");
        due("17 tracks", x.count(5), 4);
        due("17 the second frame", x.listen(), 1);
        x.sees(1, NONE);
        due("17 one is left", x.listen(), NONE);
        x.forget();
        x.sees(0, NONE);
        due("17 three are left", x.listen(), 1);
        x.forget();
        x.sees(0, NONE);
        x.sees(0, 0);
        due("17 none is left", x.listen(), NONE);
        x.forget();
        Checks.tell(x, "frame 0000;frame 0000;frame 9090;least 8;");
        due("17 the last frame", x.listen(), 2);
        Checks.tell(x, "frame 000000909000;frame 000000009090;reach 8;");
        due("17 high pitches, as many in each", x.listen(), 0);
        Checks.tell(x, "frame 9000;frame 0009;frame 9000;reach 0;");
        due("17 as many in each, the earliest", x.listen(), 0);
    }

    private static void promise18Keep() {
        FollowedPeaks x = Checks.told("frame 090;frame 900;floor 2;");
        due("18 image -1", x.keep(-1), BAD);
        due("18 image 2", x.keep(2), BAD);
        due("18 keep(0)", x.keep(0), 2);
        due("18 what may be undone stays", x.count(10), 1);
        Checks.tell(x, "frame 000;frame 000;frame 001;");
        due("18 keep(1)", x.keep(1), 3);
        due("18 back(0)", x.back(0), 2);
        due("18 floor", x.count(2), 2);
        x.levels(0, 0, 7);
        due("18 keep(0) again", x.keep(0), 2);
        due("18 back(1)", x.back(1), 3);
        due("18 level", x.level(2, 2), 1);
        due("18 back(0)", x.back(0), 2);
        due("18 the later one", x.level(0, 0), 7);
        x.levels(0, 0, 1);
        due("18 an image stays as it was", x.back(0), 2);
        due("18 level", x.level(0, 0), 7);
    }

    private static void promise19Back() {
        FollowedPeaks x = Checks.told("frame 0909;floor 3;reach 9;least 2;");
        due("19 image -1", x.back(-1), BAD);
        due("19 image 2", x.back(2), BAD);
        due("19 none was kept", x.back(0), STATE);
        due("19 refused: all may be undone", x.count(10), 1);
        x.keep(1);
        due("19 the other was not kept", x.back(0), STATE);
        Checks.tell(x, "frame 00000;frame 00000;");
        x.sees(0, 4);
        Checks.type(x, "fra");
        due("19 back", x.back(1), 1);
        int[] counts = {1, 4, 3, 9, 2, 2, 0, 0, 1, 3, 0};
        for (int what = 0; what < counts.length; what++) {
            due("19 count(" + what + ")", x.count(what), counts[what]);
        }
        due("19 level", x.level(0, 3), 9);
        due("19 nothing can be undone", x.undo(), STATE);
        x.levels(0, 0, 1);
        due("19 undo of what came behind", x.undo(), 0);
        due("19 level", x.level(0, 0), 0);
    }

    private static void promise20Count() {
        FollowedPeaks x = Checks.told("frame 90900;frame 90909;frame 00909;floor 2;reach 3;least 2;");
        x.sees(0, 0);
        x.sees(1, 0);
        Checks.type(x, "four");
        x.levels(0, 0, 8);
        int[] counts = {3, 5, 2, 3, 2, 3, 3, 1, 2, 4, 2};
        for (int what = 0; what < counts.length; what++) {
            due("20 count(" + what + ")", x.count(what), counts[what]);
        }
        x.sets(2, 3);
        due("20 kept", x.count(6), 1);
        due("20 longest", x.count(7), 1);
        x.sets(2, 8);
        due("20 none kept", x.count(6), 0);
        due("20 the longest may be a short one", x.count(7), 1);
        x.levels(0, 2, 0);
        due("20 the lowest of several", x.count(7), 0);
        due("20 what -1", x.count(-1), BAD);
        due("20 what 11", x.count(11), BAD);
    }

    /** Eight frames of six peaks each, none of them joined: 48 tracks, the most there can be. */
    private static void mostTracks() {
        FollowedPeaks x = Checks.told("frame90909090909;frame91929394959;".repeat(4));
        due("most: six tracks by reach 4", x.count(5), 6);
        due("most: sets", x.sets(1, 0), 4);
        due("most: tracks", x.count(5), 48);
        due("most: kept", x.count(6), 48);
        due("most: longest", x.count(7), 0);
        due("most: born in the last", x.track(47, 0), 7);
        due("most: pitch of the last", x.track(47, 7), 39);
        due("most: worth of the last", x.track(47, 6), 9);
        due("most: no more", x.track(48, 0), NO);
        due("most: track of the last peak", x.peak(7, 5, 3), 47);
        due("most: sum", x.frame(7, 1), 54);
        due("most: born", x.frame(7, 3), 6);
        due("most: end", x.frame(0, 4), 6);
        due("most: which", x.which(0), 48);
        due("most: listen", x.listen(), 0);
        due("most: best(0)", x.best(0), 1);
        due("most: best(1)", x.best(1), 6);
        x.sees(7, 39);
        due("most: the last is found", x.which(1), 47);
    }

    private static void farNumbers() {
        FollowedPeaks x = Checks.told("frame 909;frame 090;");
        for (int far : FAR) {
            due("far type", x.type(far), BAD);
            due("far levels", x.levels(far, 0, 0), BAD);
            due("far levels", x.levels(0, far, 0), BAD);
            due("far levels", x.levels(0, 0, far), BAD);
            due("far sets", x.sets(far, 1), BAD);
            due("far sets", x.sets(0, far), BAD);
            due("far level", x.level(far, 0), BAD);
            due("far level", x.level(0, far), BAD);
            due("far peak", x.peak(far, 0, 0), NO);
            due("far peak", x.peak(0, 0, far), NO);
            due("far frame", x.frame(far, 0), BAD);
            due("far frame", x.frame(0, far), BAD);
            due("far track", x.track(far, 0), NO);
            due("far track", x.track(0, far), NO);
            due("far pitch", x.pitch(far, 0), NO);
            due("far pitch", x.pitch(0, far), NO);
            due("far best", x.best(far), BAD);
            due("far sees", x.sees(far, 0), BAD);
            due("far sees", x.sees(0, far), BAD);
            due("far which", x.which(far), BAD);
            due("far keep", x.keep(far), BAD);
            due("far back", x.back(far), BAD);
            due("far count", x.count(far), BAD);
        }
        due("far k below", x.peak(0, Integer.MIN_VALUE, 0), NO);
    }
}
