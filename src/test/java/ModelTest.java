import java.util.Random;

/** Long runs of calls, the same ones each time, held against SlowModel. */
public final class ModelTest {
    private static final int RUNS = 6000;
    private static final int CALLS = 512;
    private static final int NONE = -9;
    private static final Checks CHECKS = new Checks("ModelTest");
    private static final String[] WORDS = {"frame", "floor", "reach", "least"};
    private static final String[] ODD = {"fram", "frames", "x", ";", "0", "007", "A", "\t", "-", " ", "9999999999999"};

    private FollowedPeaks real;
    private SlowModel model;
    private Random dice;
    private int run;
    private int calls;

    public static void main(String[] args) {
        for (int run = 0; run < RUNS && !CHECKS.anyFailed(); run++) {
            new ModelTest().play(run);
        }
        CHECKS.end();
    }

    private void play(int number) {
        run = number;
        real = new FollowedPeaks();
        model = new SlowModel();
        dice = new Random(number);
        calls = 0;
        while (calls < CALLS && !CHECKS.anyFailed()) {
            int way = dice.nextInt(20);
            if (way == 0) {
                tellText();
            } else if (way <= 5) {
                change();
            } else if (way == 6) {
                askAll();
            } else {
                askOne();
            }
        }
    }

    private void same(String call, int got, int want) {
        calls++;
        CHECKS.due("run " + run + ", call " + calls + ": " + call, got, want);
    }

    private int near(int most) {
        return dice.nextInt(12) == 0 ? dice.nextInt(most + 5) - 2 : dice.nextInt(most + 1);
    }

    private void tellText() {
        String text = makeText();
        for (int i = 0; i < text.length(); i++) {
            same("type", real.type(text.charAt(i)), model.type(text.charAt(i)));
        }
        same("tells of " + text, real.tells(), model.tells());
        if (dice.nextInt(3) > 0) {
            same("clear", real.clear(), model.clear());
        }
    }

    private String makeText() {
        StringBuilder text = new StringBuilder();
        int places = 3 + dice.nextInt(10);
        int items = 1 + dice.nextInt(9);
        boolean odd = dice.nextInt(4) == 0;
        for (int i = 0; i < items; i++) {
            int word = dice.nextInt(3) > 0 ? 0 : dice.nextInt(4);
            text.append(blanks()).append(WORDS[word]).append(blanks());
            text.append(word == 0 ? row(places) : dice.nextInt(word == 2 ? 21 : 8) + (word == 2 ? 0 : 1));
            text.append(blanks()).append(";");
            if (odd && dice.nextInt(6) == 0) {
                text.append(ODD[dice.nextInt(ODD.length)]);
            }
        }
        if (odd && dice.nextBoolean()) {
            text.setLength(dice.nextInt(text.length() + 1));
        }
        if (odd && dice.nextBoolean() && text.length() > 0) {
            text.setCharAt(dice.nextInt(text.length()), (char) dice.nextInt(256));
        }
        return text.toString();
    }

    private String blanks() {
        return dice.nextInt(4) == 0 ? " ".repeat(1 + dice.nextInt(2)) : "";
    }

    private String row(int places) {
        StringBuilder row = new StringBuilder();
        boolean sparse = dice.nextBoolean();
        for (int i = 0; i < places; i++) {
            row.append(sparse && dice.nextBoolean() ? 0 : dice.nextInt(10));
        }
        return row.toString();
    }

    private void change() {
        int a = near(7);
        int b = near(11);
        int c = near(9);
        switch (dice.nextInt(9)) {
            case 0, 1, 2 -> same("levels(" + a + ", " + b + ", " + c + ")", real.levels(a, b, c), model.levels(a, b, c));
            case 3 -> {
                int what = near(2);
                int n = near(what == 1 ? 20 : 9);
                same("sets(" + what + ", " + n + ")", real.sets(what, n), model.sets(what, n));
            }
            case 4 -> same("undo", real.undo(), model.undo());
            case 5 -> seeOne();
            case 6 -> {
                if (dice.nextInt(3) == 0) same("forget", real.forget(), model.forget());
            }
            case 7 -> {
                int image = near(1);
                same("keep(" + image + ")", real.keep(image), model.keep(image));
            }
            default -> {
                int image = near(1);
                if (dice.nextInt(3) == 0) same("back(" + image + ")", real.back(image), model.back(image));
            }
        }
    }

    /** What one of the tracks has, mostly, so that some of them stay possible. */
    private void seeOne() {
        int frame = near(7);
        int pitch = model.pitch(near(3), frame);
        if (pitch < NONE || dice.nextInt(6) == 0) {
            pitch = dice.nextInt(50) - 3;
        }
        same("sees(" + frame + ", " + pitch + ")", real.sees(frame, pitch), model.sees(frame, pitch));
    }

    private void askOne() {
        int a = near(7);
        int b = near(7);
        int c = near(4);
        switch (dice.nextInt(8)) {
            case 0 -> same("level(" + a + ", " + b + ")", real.level(a, b), model.level(a, b));
            case 1 -> same("peak(" + a + ", " + b + ", " + c + ")", real.peak(a, b, c), model.peak(a, b, c));
            case 2 -> same("frame(" + a + ", " + c + ")", real.frame(a, c), model.frame(a, c));
            case 3 -> same("track(" + a + ", " + b + ")", real.track(a, b), model.track(a, b));
            case 4 -> same("pitch(" + a + ", " + b + ")", real.pitch(a, b), model.pitch(a, b));
            case 5 -> {
                int what = near(1);
                same("best(" + what + ")", real.best(what), model.best(what));
                same("which(" + what + ")", real.which(what), model.which(what));
            }
            case 6 -> same("listen", real.listen(), model.listen());
            default -> {
                int what = near(10);
                same("count(" + what + ")", real.count(what), model.count(what));
            }
        }
    }

    /** All that can be asked of what there is, so that no part of it goes unseen for long. */
    private void askAll() {
        for (int what = 0; what <= 10; what++) {
            same("count(" + what + ")", real.count(what), model.count(what));
        }
        int frames = model.count(0);
        for (int f = 0; f < frames; f++) {
            for (int what = 0; what <= 4; what++) {
                same("frame(" + f + ", " + what + ")", real.frame(f, what), model.frame(f, what));
            }
            for (int k = 0; k < model.frame(f, 0); k++) {
                for (int what = 0; what <= 4; what++) {
                    same("peak(" + f + ", " + k + ", " + what + ")", real.peak(f, k, what), model.peak(f, k, what));
                }
            }
        }
        int n = model.count(5) > 0 ? dice.nextInt(model.count(5)) : 0;
        for (int what = 0; what <= 7; what++) {
            same("track(" + n + ", " + what + ")", real.track(n, what), model.track(n, what));
        }
        for (int f = 0; f < frames; f++) {
            same("pitch(" + n + ", " + f + ")", real.pitch(n, f), model.pitch(n, f));
        }
    }
}
