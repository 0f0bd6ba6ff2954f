/** Promises 30 to 35: reels, and count. */
public final class ReelsTest {
    private static final int NONE = -1, UNKNOWN = -2, OUTSIDE = -3;
    private static final int NULL = -11, CAST = -12, STORE = -13, INDEX = -14, EMPTY = -15, SIZE = -16;
    private static final int MIN = Integer.MIN_VALUE, MAX = Integer.MAX_VALUE;
    private static final Due due = new Due();

    public static void main(String[] args) {
        reel();
        record();
        play();
        splice();
        drop();
        count();
        constants();
        due.end();
    }

    private static void reel() {
        due.promise("30 reel");
        ParrotSpeech x = new ParrotSpeech();
        due.is("reel(3, 4, -1)", x.reel(3, 4, -1), UNKNOWN);
        due.is("reel(-1, 0, 1)", x.reel(-1, 0, 1), UNKNOWN);
        due.is("reel(0, 4, -1)", x.reel(0, 4, -1), OUTSIDE);
        due.is("reel(0, -1, 1)", x.reel(0, -1, 1), OUTSIDE);
        due.is("reel(0, 0, 13)", x.reel(0, 0, 13), OUTSIDE);
        due.is("reel(0, 0, -1)", x.reel(0, 0, -1), SIZE);
        due.is("reel(0, 0, min)", x.reel(0, 0, MIN), SIZE);
        due.is("count(6)", x.count(6), 0);
        due.is("reel(0, 0, 0)", x.reel(0, 0, 0), 0);
        due.is("reel(2, 3, 12)", x.reel(2, 3, 12), 12);
        due.is("count(6)", x.count(6), 2);
        due.is("play(0, 0, 0)", x.play(0, 0, 0), INDEX);
        due.is("play(2, 3, 11)", x.play(2, 3, 11), EMPTY);
        due.is("reel(2, 2, 2)", x.reel(2, 2, 2), 2);
        due.is("play(2, 2, 1)", x.play(2, 2, 1), 0);
        x.record(2, 2, 1, 5);
        due.is("reel(2, 2, -1)", x.reel(2, 2, -1), SIZE);
        due.is("play(2, 2, 1)", x.play(2, 2, 1), 5);
        due.is("reel(2, 2, 2)", x.reel(2, 2, 2), 2);
        due.is("play(2, 2, 1)", x.play(2, 2, 1), 0);
    }

    private static void record() {
        due.promise("31 record");
        ParrotSpeech x = Due.harbour("hawk 0;grey 1");
        due.is("record(3, 9, 0, 0)", x.record(3, 9, 0, 0), UNKNOWN);
        due.is("record(0, 3, 0, 2)", x.record(0, 3, 0, 2), UNKNOWN);
        due.is("record(0, 3, 0, -2)", x.record(0, 3, 0, -2), UNKNOWN);
        due.is("record(0, 4, 0, 0)", x.record(0, 4, 0, 0), OUTSIDE);
        due.is("record(0, -1, 0, 0)", x.record(0, -1, 0, 0), OUTSIDE);
        due.is("record(0, 3, 9, 1)", x.record(0, 3, 9, 1), NULL);
        x.reel(0, 0, 2);
        x.reel(1, 1, 2);
        x.reel(2, 2, 2);
        due.is("record(0, 1, 9, 0)", x.record(0, 1, 9, 0), CAST);
        due.is("record(0, 0, 2, 0)", x.record(0, 0, 2, 0), INDEX);
        due.is("record(0, 0, -1, 0)", x.record(0, 0, -1, 0), INDEX);
        due.is("record(0, 0, 0, 127)", x.record(0, 0, 0, 127), 100127);
        due.is("record(0, 0, 1, 128)", x.record(0, 0, 1, 128), 100000 - 128);
        due.is("record(1, 1, 0, 32767)", x.record(1, 1, 0, 32767), 132767);
        due.is("record(1, 1, 1, 32768)", x.record(1, 1, 1, 32768), 100000 - 32768);
        due.is("record(2, 2, 0, max)", x.record(2, 2, 0, MAX), 1);
        due.is("record(2, 2, 1, min)", x.record(2, 2, 1, MIN), 1);
        x.reel(0, 3, 2);
        due.is("record(0, 3, 0, 1)", x.record(0, 3, 0, 1), 1);
        due.is("record(0, 3, 1, 0)", x.record(0, 3, 1, 0), 0);
        due.is("record(0, 3, 1, -1)", x.record(0, 3, 1, NONE), NONE);
        due.is("record(0, 3, 2, -1)", x.record(0, 3, 2, NONE), INDEX);
        due.is("play(0, 3, 0)", x.play(0, 3, 0), 1);
        due.is("play(0, 3, 1)", x.play(0, 3, 1), EMPTY);
    }

    private static void play() {
        due.promise("32 play");
        ParrotSpeech x = Due.harbour("hawk 0;grey 1");
        due.is("play(3, 9, 0)", x.play(3, 9, 0), UNKNOWN);
        due.is("play(-1, 0, 0)", x.play(-1, 0, 0), UNKNOWN);
        due.is("play(0, 4, 0)", x.play(0, 4, 0), OUTSIDE);
        due.is("play(0, 0, 0)", x.play(0, 0, 0), NULL);
        x.reel(0, 2, 1);
        due.is("play(0, 3, 5)", x.play(0, 3, 5), CAST);
        due.is("play(0, 2, 1)", x.play(0, 2, 1), INDEX);
        due.is("play(0, 2, -1)", x.play(0, 2, -1), INDEX);
        int[] values = {0, 1, 1000002, 1000003, 1000004, MAX, -1, -2, -1000003, -1000004, MIN};
        int[] wants = {0, 1, 1000002, 0, 1, 477206, 2000000, 2000001, 3000002, 2000000, 2477206};
        for (int i = 0; i < values.length; i++) {
            x.record(0, 2, 0, values[i]);
            due.is("play(0, 2, 0) of " + values[i], x.play(0, 2, 0), wants[i]);
        }
        x.reel(1, 0, 1);
        x.record(1, 0, 0, 200);
        due.is("play(1, 0, 0)", x.play(1, 0, 0), 100000 - 56);
        x.reel(1, 1, 1);
        x.record(1, 1, 0, -70000);
        due.is("play(1, 1, 0)", x.play(1, 1, 0), 100000 - 70000 + 65536);
        x.reel(1, 3, 1);
        x.record(1, 3, 0, 1);
        Due.write(x, "harbour");
        x.harbour();
        due.is("play(1, 3, 0), the bird gone", x.play(1, 3, 0), 1);
    }

    private static void splice() {
        due.promise("33 splice");
        ParrotSpeech x = new ParrotSpeech();
        due.is("splice(3, 0, 0, 0, 0)", x.splice(3, 0, 0, 0, 0), UNKNOWN);
        due.is("splice(0, 0, -1, 0, 0)", x.splice(0, 0, -1, 0, 0), UNKNOWN);
        x.reel(0, 2, 4);
        due.is("splice(0, 0, 1, 0, 9)", x.splice(0, 0, 1, 0, 9), NULL);
        due.is("splice(1, 0, 0, 0, 9)", x.splice(1, 0, 0, 0, 9), NULL);
        x.reel(1, 1, 4);
        due.is("splice(0, 0, 1, 0, 9)", x.splice(0, 0, 1, 0, 9), STORE);
        x.reel(1, 2, 3);
        for (int i = 0; i < 4; i++) {
            x.record(0, 2, i, i + 1);
        }
        int[][] wrong = {{0, 0, 4}, {1, 0, -1}, {-1, 0, 1}, {0, -1, 1}, {4, 0, 1}, {0, 3, 1}, {5, 0, 0}, {0, 4, 0},
            {MAX, 0, MAX}, {0, MAX, MAX}, {MIN, MIN, MIN}, {1, 1, MAX}};
        for (int[] w : wrong) {
            due.is("splice(0, " + w[0] + ", 1, " + w[1] + ", " + w[2] + ")", x.splice(0, w[0], 1, w[1], w[2]), INDEX);
        }
        due.is("splice(0, 4, 1, 3, 0)", x.splice(0, 4, 1, 3, 0), 0);
        due.is("splice(0, 1, 1, 0, 3)", x.splice(0, 1, 1, 0, 3), 3);
        row(x, 1, 2, 3, 4);
        due.is("splice(0, 0, 0, 1, 3)", x.splice(0, 0, 0, 1, 3), 3);
        row(x, 0, 1, 1, 2, 3);
        due.is("splice(0, 1, 0, 0, 3)", x.splice(0, 1, 0, 0, 3), 3);
        row(x, 0, 1, 2, 3, 3);
    }

    private static void row(ParrotSpeech x, int reel, int... wants) {
        for (int i = 0; i < wants.length; i++) {
            due.is("play(" + reel + ", 2, " + i + ")", x.play(reel, 2, i), wants[i]);
        }
    }

    private static void drop() {
        due.promise("34 drop");
        ParrotSpeech x = new ParrotSpeech();
        due.is("drop(3)", x.drop(3), UNKNOWN);
        due.is("drop(-1)", x.drop(-1), UNKNOWN);
        due.is("drop(2)", x.drop(2), NULL);
        x.reel(2, 1, 7);
        due.is("drop(2)", x.drop(2), 7);
        due.is("drop(2)", x.drop(2), NULL);
        due.is("play(2, 1, 0)", x.play(2, 1, 0), NULL);
    }

    private static void count() {
        due.promise("35 count");
        ParrotSpeech x = Due.harbour("parrot 0;grey 1;cockatoo 2;man ab;man bc;cover 1;cover 2;knows 0 a 5;knows 2 j 7;knows 1 d 4");
        x.evening(1);
        x.evening(2);
        x.seen(0, 0, 0);
        x.reel(1, 0, 0);
        Due.write(x, "xyz");
        int[] wants = {3, 2, 3, 6, 4, 1, 1, 2, 3, 1 | 512};
        for (int what = 0; what < 10; what++) {
            due.is("count(" + what + ")", x.count(what), wants[what]);
        }
        due.is("count(10)", x.count(10), OUTSIDE);
        due.is("count(-1)", x.count(-1), OUTSIDE);
    }

    private static void constants() {
        due.promise("the constants");
        int[] got = {ParrotSpeech.NONE, ParrotSpeech.UNKNOWN, ParrotSpeech.OUTSIDE, ParrotSpeech.NOT, ParrotSpeech.FULL,
            ParrotSpeech.NULL, ParrotSpeech.CAST, ParrotSpeech.STORE, ParrotSpeech.INDEX, ParrotSpeech.EMPTY, ParrotSpeech.SIZE};
        int[] wants = {-1, -2, -3, -4, -5, -11, -12, -13, -14, -15, -16};
        for (int i = 0; i < wants.length; i++) {
            due.is("constant " + i, got[i], wants[i]);
        }
    }
}
