import java.util.List;

/** The boundary cases of the text: promises 2 to 4, and what the document's terms say of THE TEXT. */
public final class TextBoundsTest {
    private static final int BAD = Bounds.BAD, FULL = Bounds.FULL;
    private static final Checks CHECKS = new Checks("TextBoundsTest");
    private static final Bounds BOUNDS = new Bounds(CHECKS);
    private static final String[] SETTINGS = {"floor", "reach", "least"};
    private static final int[] LOWEST = {1, 0, 1};
    private static final int[] HIGHEST = {9, 20, 8};

    public static void main(String[] args) {
        lettersAre0To255();
        lettersAre140AtMost();
        theLastLetterCounts();
        clearEmptiesTheTextAlone();
        typeChangesTheTextAlone();
        blanksMayStandAnywhereBetween();
        blanksAreNeededBetweenFiguresAlone();
        blanksDivideTokens();
        onlyLetter32IsABlank();
        itemsEndWithAStop();
        framesHave3To12Figures();
        theFirstFrameTellsB();
        framesAreOneAtLeast();
        framesAre8AtMost();
        aNinthFrameIsAFault();
        numbersAreAsTold();
        numbersHaveTwoFiguresAtMost();
        numbersHaveNo0Ahead();
        toldAgainTheLater();
        wordsAreTheseFour();
        otherLettersAreFaults();
        tokensStandInTheirOrder();
        aTextThatEndsTooEarly();
        theFirstFaultIsTold();
        faultsFromTheFirstPlaceToTheLength();
        aFaultChangesNothing();
        aFaultyTextCanBeMended();
        toldTextIsEmpty();
        whatIsNotToldIsAsAtFirst();
        seenAndImagesStay();
        CHECKS.end();
    }

    private static void due(String call, long got, long want) {
        CHECKS.due(call, got, want);
    }

    /** Told on a new object; the text is empty then, or stays. */
    private static FollowedPeaks dueTells(String text, int want) {
        CHECKS.dueTrue("a test's text has 140 letters at most: " + text, text.length() <= 140);
        FollowedPeaks x = new FollowedPeaks();
        Checks.type(x, text);
        due("tells of '" + text + "'", x.tells(), want);
        due("count(9) behind tells of '" + text + "'", x.count(9), want >= 0 ? 0 : text.length());
        due("count(10) behind tells of '" + text + "'", x.count(10), want >= 0 ? 1 : 0);
        return x;
    }

    private static void dueFault(String text, int place) {
        dueTells(text, -10 - place);
    }

    /** "A letter (0 .. 255) comes to THE TEXT: how many it has. BAD" */
    private static void lettersAre0To255() {
        for (int letter = -600; letter <= 600; letter++) {
            boolean isLetter = letter >= 0 && letter <= 255;
            FollowedPeaks x = new FollowedPeaks();
            due("type(" + letter + ")", x.type(letter), isLetter ? 1 : BAD);
            due("count(9) behind type(" + letter + ")", x.count(9), isLetter ? 1 : 0);
        }
        BOUNDS.refusedEverywhere("type(-1)", x -> x.type(-1), BAD);
        BOUNDS.refusedEverywhere("type(256)", x -> x.type(256), BAD);
        for (int far : Bounds.FAR) {
            BOUNDS.refusedEverywhere("type(" + far + ")", x -> x.type(far), BAD);
            BOUNDS.refusedEverywhere("type(" + (far + ';') + ")", x -> x.type(far + ';'), BAD);
        }
    }

    /** "140 letters at most", "FULL: 140", "the first of these that is so: BAD, STATE, FULL" */
    private static void lettersAre140AtMost() {
        FollowedPeaks x = new FollowedPeaks();
        for (int n = 1; n <= 140; n++) {
            due("letter " + n, x.type('a'), n);
            due("count(9) of " + n, x.count(9), n);
        }
        for (int again = 0; again < 3; again++) {
            due("letter 141", x.type('a'), FULL);
            due("count(9) of a full text", x.count(9), 140);
        }
        BOUNDS.refused(Stand.FULL, "type(0)", y -> y.type(0), FULL);
        BOUNDS.refused(Stand.FULL, "type(' ')", y -> y.type(' '), FULL);
        BOUNDS.refused(Stand.FULL, "type(';')", y -> y.type(';'), FULL);
        BOUNDS.refused(Stand.FULL, "type(255)", y -> y.type(255), FULL);
        BOUNDS.refused(Stand.FULL, "BAD ahead of FULL: type(-1)", y -> y.type(-1), BAD);
        BOUNDS.refused(Stand.FULL, "BAD ahead of FULL: type(256)", y -> y.type(256), BAD);
        due("clear of a full text", x.clear(), 140);
        for (int n = 1; n <= 140; n++) {
            due("letter " + n + " behind clear", x.type('b'), n);
        }
        due("letter 141 behind clear", x.type('b'), FULL);
    }

    private static void theLastLetterCounts() {
        FollowedPeaks x = dueTells(" ".repeat(130) + "frame 123;", 1);
        due("level(0, 2) of a full text", x.level(0, 2), 3);
        for (int n = 1; n <= 140; n++) {
            due("letter " + n + " behind a full text told", x.type(' '), n);
        }
        due("letter 141 behind a full text told", x.type(' '), FULL);
        dueTells("frame 123;" + " ".repeat(130), 1);
        dueFault(" ".repeat(131) + "frame 123", 140);
        dueFault("frame 123;" + " ".repeat(129) + "!", 139);
        dueFault("frame 123;" + " ".repeat(129) + ";", 139);
    }

    /** "THE TEXT is empty: how many letters it had." */
    private static void clearEmptiesTheTextAlone() {
        BOUNDS.changesOnly(Stand.NEW, "clear()", FollowedPeaks::clear, 0);
        BOUNDS.changesOnly(Stand.IN_USE, "clear()", FollowedPeaks::clear, 17, Portrait.TEXT);
        BOUNDS.changesOnly(Stand.FULL, "clear()", FollowedPeaks::clear, 140, Portrait.TEXT);
        for (Stand stand : Stand.values()) {
            FollowedPeaks x = stand.object();
            x.clear();
            due(stand + ": count(9) behind clear", x.count(9), 0);
            due(stand + ": clear of an empty text", x.clear(), 0);
            due(stand + ": tells of an empty text", x.tells(), -10);
            due(stand + ": the first letter behind clear", x.type('f'), 1);
        }
    }

    private static void typeChangesTheTextAlone() {
        BOUNDS.changesOnly(Stand.NEW, "type(';')", x -> x.type(';'), 1, Portrait.TEXT);
        BOUNDS.changesAll(Stand.NEW, "type(';')", x -> x.type(';'), Portrait.TEXT);
        BOUNDS.changesOnly(Stand.IN_USE, "type(';')", x -> x.type(';'), 18, Portrait.TEXT);
        BOUNDS.changesAll(Stand.IN_USE, "type(';')", x -> x.type(';'), Portrait.TEXT);
    }

    /** "blanks (32) may stand ahead of, between and behind TOKENS" */
    private static void blanksMayStandAnywhereBetween() {
        for (int many = 0; many <= 9; many++) {
            String blanks = " ".repeat(many);
            dueTells(blanks + "frame 901;reach 7;", 2);
            dueTells("frame" + blanks + "901;reach" + blanks + "7;", 2);
            dueTells("frame 901" + blanks + ";reach 7" + blanks + ";", 2);
            dueTells("frame 901;" + blanks + "reach 7;", 2);
            dueTells("frame 901;reach 7;" + blanks, 2);
            String all = String.join(blanks, "", "frame", "901", ";", "reach", "7", ";", "");
            FollowedPeaks x = dueTells(all, 2);
            due("count(3) of '" + all + "'", x.count(3), 7);
            due("level(0, 2) of '" + all + "'", x.level(0, 2), 1);
        }
    }

    /** "(needed between two TOKENS of figures alone)" */
    private static void blanksAreNeededBetweenFiguresAlone() {
        due("B of six figures", dueTells("frame000111;", 1).count(1), 6);
        dueFault("frame000 111;", 9);
        dueFault("frame 000 1;", 10);
        due("reach of two figures", dueTells("reach12;frame000;", 2).count(3), 12);
        dueFault("reach1 2;frame000;", 7);
        dueTells("floor2;frame000;least3;frame111;reach4;", 5);
    }

    private static void blanksDivideTokens() {
        dueFault("fra me 000;", 0);
        dueFault("f rame 000;", 0);
        dueFault("frame 00 0;", 6);
        dueFault("frame 00 000;", 6);
        dueFault("frame 000;fl oor 1;", 10);
        dueFault("frame 000;reach 1 0;", 18);
        dueFault("frame 000;reach 2 1;", 18);
    }

    /** "of any other letter, that TOKEN's": all letters but the blank, a to z, the figures and ; */
    private static void onlyLetter32IsABlank() {
        for (int letter = 0; letter <= 255; letter++) {
            char c = (char) letter;
            if (c == ' ' || c == ';' || c >= 'a' && c <= 'z' || c >= '0' && c <= '9') {
                continue;
            }
            dueFault(c + "frame 000;", 0);
            dueFault("frame" + c + "000;", 5);
            dueFault("frame 000" + c + ";", 9);
            dueFault("frame 000;" + c, 10);
            dueFault("frame 000;  " + c + "reach 1;", 12);
            dueFault("frame 000;reach 1" + c + ";", 17);
        }
    }

    /** "ITEMS, each ended by ;" */
    private static void itemsEndWithAStop() {
        dueFault("frame 000", 9);
        dueFault("frame 000;floor 3", 17);
        dueFault("frame 000 floor 3;", 10);
        dueFault("frame 000floor 3;", 9);
        dueFault("floor 3frame 000;", 7);
        dueFault("floor 3 frame 000;", 8);
        dueFault("frame 000;;", 10);
        dueFault("frame 000; ;", 11);
        dueFault("frame 000;;floor 3;", 10);
        dueFault(";", 0);
        dueFault(" ;", 1);
        dueFault(";frame 000;", 0);
    }

    /** "frame F (the next FRAME: 3 to 12 figures" */
    private static void framesHave3To12Figures() {
        String figures = "192837465091827364509182736450";
        dueFault("frame ;", 6);
        for (int many = 1; many <= 30; many++) {
            String row = figures.substring(0, many);
            if (many < 3 || many > 12) {
                dueFault("frame " + row + ";", 6);
                dueFault("frame " + row, 6);
                dueFault("frame 000;frame " + row + ";", 16);
                continue;
            }
            FollowedPeaks x = dueTells("frame " + row + ";", 1);
            CHECKS.dueCounts("frame " + row, x, 1, many, 1, 4, 1);
            for (int place = 0; place < many; place++) {
                due("level(0, " + place + ") of " + row, x.level(0, place), row.charAt(place) - '0');
            }
            due("level(0, B) of " + row, x.level(0, many), BAD);
        }
    }

    /** "the first one tells B", "one of other length than the first" */
    private static void theFirstFrameTellsB() {
        for (int first = 3; first <= 12; first++) {
            String start = "frame " + "1".repeat(first) + ";";
            for (int next = 1; next <= 14; next++) {
                String second = start + "frame " + "2".repeat(next) + ";";
                String third = start + second;
                if (next == first) {
                    CHECKS.dueCounts(second, dueTells(second, 2), 2, first);
                    CHECKS.dueCounts(third, dueTells(third, 3), 3, first);
                } else {
                    dueFault(second, start.length() + 6);
                    dueFault(third, 2 * start.length() + 6);
                }
            }
        }
        // The first frame, not the first item, nor the one ahead.
        dueTells("floor 1;frame 0000;reach 1;frame 1111;", 4);
        dueFault("floor 1;frame 0000;reach 1;frame 111;", 33);
    }

    /** "one at least", "the text's length, if it ends too early (also without a frame)" */
    private static void framesAreOneAtLeast() {
        for (String text : List.of("", " ", "     ", "floor 1;", "reach 0;", "least 8;", "floor 9;reach 20;least 1;",
                "floor 9;reach 20;least 1; ")) {
            dueFault(text, text.length());
        }
        dueTells("frame 000;", 1);
        dueTells("floor 9;reach 20;least 1;frame 000;", 4);
    }

    /** "8 at most" */
    private static void framesAre8AtMost() {
        for (int many = 1; many <= 8; many++) {
            StringBuilder text = new StringBuilder();
            for (int f = 0; f < many; f++) {
                text.append("frame0").append(f).append("9;");
            }
            FollowedPeaks x = dueTells(text.toString(), many);
            CHECKS.dueCounts(text.toString(), x, many, 3, 1, 4, 1);
            for (int f = 0; f < many; f++) {
                due("level(" + f + ", 1) of " + text, x.level(f, 1), f);
            }
            due("level(" + many + ", 0) of " + text, x.level(many, 0), BAD);
        }
        dueTells("frame00000000000;".repeat(8), 8);
        dueTells("frame000;".repeat(8) + "floor 2;reach 3;least 4;", 11);
        dueTells("floor 2;" + "frame000;".repeat(7) + "least 4;frame000;", 10);
    }

    /** FAULT "of the first TOKEN that can't stand there (a ninth frame": nothing can follow its word. */
    private static void aNinthFrameIsAFault() {
        String eight = "frame000;".repeat(8);
        dueFault(eight + "frame000;", 72);
        dueFault(eight + " frame 000;", 73);
        dueFault(eight + "frame", 72);
        dueFault(eight + "frame;", 72);
        dueFault(eight + "frame 0000;", 72);
        dueFault(eight + "frame!", 72);
        dueFault(eight + "frame000;frame000;", 72);
        dueFault(eight + "floor 2;frame000;", 80);
        dueFault("reach 1;" + eight + "frame000;", 80);
        dueFault(eight + "frames000;", 72);
    }

    /** "floor N, reach N, least N", FLOOR "1 to 9", REACH "0 to 20", LEAST "1 to 8", "is not as told" */
    private static void numbersAreAsTold() {
        for (int what = 0; what < 3; what++) {
            for (int n = 0; n <= 130; n++) {
                String behind = "frame 000;" + SETTINGS[what] + " " + n + ";";
                String ahead = SETTINGS[what] + " " + n + ";frame 000;";
                if (n < LOWEST[what] || n > HIGHEST[what]) {
                    dueFault(behind, 16);
                    dueFault(ahead, 6);
                } else {
                    due("count of " + behind, dueTells(behind, 2).count(2 + what), n);
                    due("count of " + ahead, dueTells(ahead, 2).count(2 + what), n);
                }
            }
            dueFault("frame 000;" + SETTINGS[what] + " -1;", 16);
            dueFault("frame 000;" + SETTINGS[what] + ";", 15);
        }
    }

    /** "an N that has more than two figures" */
    private static void numbersHaveTwoFiguresAtMost() {
        // The long ones come to small numbers if they are cut to 32 or 64 bits.
        for (String n : List.of("100", "000", "001", "010", "004", "0000", "1000", "4294967297", "4294967300",
                "18446744073709551617", "1" + "0".repeat(60), "0".repeat(60) + "1")) {
            for (String word : SETTINGS) {
                dueFault("frame 000;" + word + " " + n + ";", 16);
                dueFault("frame 000;" + word + n + ";", 15);
                dueFault("frame 000;" + word + n, 15);
            }
        }
    }

    /** "or a 0 ahead of another one" */
    private static void numbersHaveNo0Ahead() {
        for (String word : SETTINGS) {
            for (int figure = 0; figure <= 9; figure++) {
                dueFault("frame 000;" + word + " 0" + figure + ";", 16);
            }
        }
        due("a 0 alone", dueTells("frame 000;reach 0;", 2).count(3), 0);
        due("a 0 behind", dueTells("frame 000;reach 10;", 2).count(3), 10);
        due("a 0 behind", dueTells("frame 000;reach 20;", 2).count(3), 20);
    }

    /** "(each told again: the later)" */
    private static void toldAgainTheLater() {
        for (int what = 0; what < 3; what++) {
            String low = SETTINGS[what] + " " + LOWEST[what] + ";";
            String high = SETTINGS[what] + " " + HIGHEST[what] + ";";
            due("high, low", dueTells(high + low + "frame 000;", 3).count(2 + what), LOWEST[what]);
            due("low, high", dueTells(low + high + "frame 000;", 3).count(2 + what), HIGHEST[what]);
            due("low, frame, high", dueTells(low + "frame 000;" + high, 3).count(2 + what), HIGHEST[what]);
            due("low, high, low", dueTells("frame 000;" + low + high + low, 4).count(2 + what), LOWEST[what]);
            due("high, high", dueTells("frame 000;" + high + high, 3).count(2 + what), HIGHEST[what]);
        }
        CHECKS.dueCounts("all told again", dueTells("floor 2;reach 2;least 2;frame 000;least 3;reach 4;floor 5;", 7),
            1, 3, 5, 4, 3);
        // A fault in what is told again is a fault all the same.
        dueFault("floor 0;floor 1;frame 000;", 6);
    }

    /** "of a word that is none of these .. that TOKEN's" */
    private static void wordsAreTheseFour() {
        for (String word : List.of("a", "z", "f", "fram", "frames", "frane", "brame", "aframe", "framea", "framez",
                "frameframe", "flor", "floors", "flour", "gloor", "reac", "reaches", "roach", "teach", "leas", "leasts",
                "lease", "beast", "floorreach", "level", "abcdefghijklmnopqrstuvwxyz")) {
            dueFault(word, 0);
            dueFault(word + " 3;frame 000;", 0);
            dueFault("frame 000;" + word + " 3;", 10);
            dueFault("frame 000; " + word, 11);
            dueFault("frame " + word + ";", 6);
            dueFault("frame 000" + word, 9);
            dueFault("frame 000;reach " + word + ";", 16);
        }
    }

    private static void otherLettersAreFaults() {
        dueFault("Frame 000;", 0);
        dueFault("fRame 000;", 0);
        dueFault("framE 000;", 0);
        dueFault("frame 0A0;", 6);
        dueFault("frame 000A;", 9);
        dueFault("frame 000,111;", 9);
        dueFault("frame 000;FLOOR 1;", 10);
        dueFault("frame 000;reach +4;", 16);
        dueFault("frame 000;reach 4.;", 17);
        dueFault("frame 000;\n", 10);
    }

    private static void tokensStandInTheirOrder() {
        dueFault("000;", 0);
        dueFault("000 frame;", 0);
        dueFault("1;frame 000;", 0);
        dueFault("frame frame 000;", 6);
        dueFault("frame floor 1;", 6);
        dueFault("frame;000;", 5);
        dueFault("frame 000;4;", 10);
        dueFault("frame 000;reach reach 4;", 16);
        dueFault("frame 000;reach frame 111;", 16);
        dueFault("frame 000;reach ;", 16);
        dueFault("frame 000;reach 4 reach 5;", 18);
    }

    /** "the text's length, if it ends too early": each start of a text, as far as it goes. */
    private static void aTextThatEndsTooEarly() {
        String text = "frame 0123;reach 12; ";
        int[] want = {-10, -10, -10, -10, -10, -15, -16, -16, -16, -19, -20, 1,
            -21, -21, -21, -21, -26, -27, -28, -29, 2, 2};
        for (int end = 0; end < want.length; end++) {
            dueTells(text.substring(0, end), want[end]);
        }
        dueFault("frame   ", 8);
        dueFault("frame 000   ", 12);
        dueFault("frame 000;least   ", 18);
        dueFault("frame 000;least 3   ", 20);
    }

    private static void theFirstFaultIsTold() {
        dueFault("frame 00;frame 0000000000000;", 6);
        dueFault("frame 000;floor 0;reach 21;", 16);
        dueFault("frame 000;reach 21;floor 0;", 16);
        dueFault("frame 000;frame 1111;frame 22222;", 16);
        dueFault("frame 000;least 9!", 16);
        dueFault("frame 000;leest 9!", 10);
        dueFault("frame 000;! least 9;", 10);
        dueFault("reach 99;", 6);
        dueFault("floor 3;x", 8);
    }

    /** "-10 less FAULT" */
    private static void faultsFromTheFirstPlaceToTheLength() {
        for (int place = 0; place < 140; place++) {
            dueTells(" ".repeat(place) + "?", -10 - place);
        }
        for (int length = 0; length <= 140; length++) {
            dueTells(" ".repeat(length), -10 - length);
        }
    }

    /** "nothing changes, THE TEXT stays" */
    private static void aFaultChangesNothing() {
        BOUNDS.refused(Stand.NEW, "tells() of no letter", FollowedPeaks::tells, -10);
        BOUNDS.refused(Stand.IN_USE, "tells() of a text without its end", FollowedPeaks::tells, -27);
        FollowedPeaks x = Checks.told("frame 0909;frame 9090;floor 5;reach 7;least 2;");
        Checks.type(x, "frame 12345;frame 54321;floor 3;least 1;reach 99;");
        for (int again = 0; again < 3; again++) {
            due("a fault behind much that fits", x.tells(), -10 - 46);
            CHECKS.dueCounts("behind a fault", x, 2, 4, 5, 7, 2, 2, 2, 0, 0, 49, 1);
            due("level(0, 1) behind a fault", x.level(0, 1), 9);
            due("level(1, 3) behind a fault", x.level(1, 3), 0);
        }
    }

    private static void aFaultyTextCanBeMended() {
        FollowedPeaks x = new FollowedPeaks();
        Checks.type(x, "frame 753");
        due("without its end", x.tells(), -19);
        due("the next letter", x.type(';'), 10);
        due("with its end", x.tells(), 1);
        due("level(0, 0)", x.level(0, 0), 7);
        due("level(0, 2)", x.level(0, 2), 3);
    }

    /** "THE TEXT tells all anew, and is empty then" */
    private static void toldTextIsEmpty() {
        BOUNDS.changesOnly(Stand.FULL, "tells()", FollowedPeaks::tells, 3,
            Portrait.TEXT, Portrait.SCENE, Portrait.UNDO, Portrait.WHICH);
        BOUNDS.changesAll(Stand.FULL, "tells()", FollowedPeaks::tells,
            Portrait.TEXT, Portrait.SCENE, Portrait.UNDO, Portrait.WHICH);
        FollowedPeaks x = dueTells("frame 753;", 1);
        due("tells again", x.tells(), -10);
        due("clear of a told text", x.clear(), 0);
        due("the first letter behind it", x.type('f'), 1);
        due("level(0, 0) behind it", x.level(0, 0), 7);
    }

    /** "A text told: what it does not tell is as at first" */
    private static void whatIsNotToldIsAsAtFirst() {
        FollowedPeaks x = Checks.told("frame999999999999;".repeat(7) + "floor 9;");
        x.sets(1, 20);
        x.sets(2, 8);
        due("a text with a frame alone", Checks.tell(x, "frame 001;"), 1);
        CHECKS.dueCounts("a frame alone", x, 1, 3, 1, 4, 1, 1, 1, 0, 0, 0, 4);
        due("level(0, 0)", x.level(0, 0), 0);
        due("level(0, 3)", x.level(0, 3), BAD);
        due("level(1, 0)", x.level(1, 0), BAD);
        Checks.tell(x, "frame 001;floor 7;");
        CHECKS.dueCounts("floor told", x, 1, 3, 7, 4, 1);
        Checks.tell(x, "frame 001;reach 7;");
        CHECKS.dueCounts("reach told", x, 1, 3, 1, 7, 1);
        Checks.tell(x, "frame 001;least 7;");
        CHECKS.dueCounts("least told", x, 1, 3, 1, 4, 7);
    }

    /** "what was SEEN, IMAGES stay" */
    private static void seenAndImagesStay() {
        FollowedPeaks x = Checks.told("frame 0909;floor 5;reach 6;least 7;");
        x.keep(1);
        x.sees(0, 8);
        x.sees(1, Bounds.NONE);
        due("another text", Checks.tell(x, "frame 909;"), 1);
        due("what was seen", x.count(8), 2);
        due("the track that was seen", x.which(1), 1);
        due("image 0 was not kept", x.back(0), Bounds.STATE);
        due("image 1", x.back(1), 1);
        CHECKS.dueCounts("image 1", x, 1, 4, 5, 6, 7);
    }
}
