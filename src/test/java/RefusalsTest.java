import java.util.function.Supplier;

/**
 * All promises: which numbers each call takes, how it is refused on either side of them, which of several
 * refusals is answered, and that "Refused, and nothing changes" holds.
 */
public final class RefusalsTest {
    private static final int NONE = -1, UNKNOWN = -2, OUTSIDE = -3, NOT = -4, FULL = -5;
    private static final int NULL = -11, CAST = -12, STORE = -13, INDEX = -14, EMPTY = -15, SIZE = -16;
    private static final Due due = new Due();

    public static void main(String[] args) {
        toldOf();
        done();
        foretold();
        seen();
        reels();
        whileNothingIsThere();
        whileAllIsFull();
        notNow();
        fullText();
        fullTime();
        nearlyFullTime();
        firstOfSeveral();
        firstOfSeveralAtReels();
        foretellingChangesNothing();
        due.end();
    }

    // ---- objects made alike

    /** Three birds, two men; more done than can be undone, both kept, six seen; a reel of bytes, one of birds, one missing. */
    private static ParrotSpeech rich() {
        ParrotSpeech x = Due.harbour("parrot 0;grey 0;green 1;man ab;man cd;knows 0 a 7;knows 1 b 4;sits 0 1;cover 2");
        Due.tongue(x, "a.*");
        x.keep(0);
        x.evening(2);
        x.teach(0, 2);
        x.perch(2, 0);
        x.keep(1);
        x.moult(0);
        x.cover(2);
        x.sit(1, 0);
        x.sit(0, NONE);
        x.evening(1);
        x.teach(1, 2);
        x.teach(2, 2);
        for (int i = 0; i < 6; i++) {
            x.seen(0, i, i < 3 ? x.said(0, i) : NONE);
        }
        x.reel(0, 0, 3);
        x.record(0, 0, 1, 200);
        x.reel(1, 3, 2);
        x.record(1, 3, 0, 2);
        Due.write(x, "hawk 0;knows 0");
        return x;
    }

    /** As rich(), but with room for what is seen. */
    private static ParrotSpeech unseen() {
        ParrotSpeech x = rich();
        x.forget();
        x.seen(3, 9, NONE);
        return x;
    }

    private static ParrotSpeech justTold() {
        ParrotSpeech x = Due.harbour("parrot 0;grey 1;hawk 2;green 3;cockatoo 0;man ab;sits 0 1;cover 2;knows 4 c 3");
        Due.write(x, "man");
        return x;
    }

    private static ParrotSpeech manyBirds() {
        ParrotSpeech x = Due.harbour("parrot 0;grey 0;cockatoo 1;hawk 2;green 0;parrot 1;grey 3;green 1;man a;man bc;man j;man cd");
        x.reel(2, 3, 1);
        return x;
    }

    private static ParrotSpeech fullOfLetters() {
        ParrotSpeech x = new ParrotSpeech();
        Due.write(x, "parrot 1;knows 0 j 7;man abc;sits 0 0");
        for (int i = x.count(8); i < 200; i++) {
            x.write(' ');
        }
        return x;
    }

    private static ParrotSpeech atEvening(int evening) {
        ParrotSpeech x = Due.harbour("parrot 0;knows 0 a 4;cover 0");
        for (int i = 0; i < evening / 12; i++) {
            x.evening(12);
        }
        if (evening % 12 != 0) {
            x.evening(evening % 12);
        }
        return x;
    }

    private static Edges of(Supplier<ParrotSpeech> made) {
        return new Edges(due, " a 5", made);
    }

    // ---- which numbers are taken

    private static void toldOf() {
        due.promise("2 to 10, numbers taken");
        Edges x = of(RefusalsTest::rich);
        x.bounds(OUTSIDE, 0, 255, "write", 0, 0);
        x.bounds(OUTSIDE, 0, 1, "fault", 0, 0);
        x.refused(NOT, "harbour");
        x.refused(NOT, "tongue");
        x.bounds(UNKNOWN, 0, 2, "bird", 0, 0, 0);
        x.bounds(OUTSIDE, 0, 4, "bird", 1, 2, 0);
        x.bounds(UNKNOWN, 0, 1, "man", 0, 0, 0);
        x.bounds(OUTSIDE, 0, 1, "man", 1, 1, 0);
        x.bounds(UNKNOWN, 0, 2, "known", 0, 0, 0, 0);
        x.bounds(UNKNOWN, 0, 9, "known", 1, 0, 0, 0);
        x.bounds(OUTSIDE, 0, 60, "known", 2, 0, 0, 0);
        x.bounds(UNKNOWN, 0, 2, "as", 0, 0, 0);
        x.bounds(OUTSIDE, 0, 5, "as", 1, 2, 0);
        x.refused(NOT, "as", 0, 2);
        x.refused(NOT, "as", 0, 5);
    }

    private static void done() {
        due.promise("11 to 19, numbers taken");
        Edges x = of(RefusalsTest::rich);
        x.bounds(OUTSIDE, 1, 12, "evening", 0, 1);
        x.bounds(UNKNOWN, 0, 2, "teach", 0, 0, 0);
        x.bounds(UNKNOWN, 0, 9, "teach", 1, 0, 0);
        x.bounds(UNKNOWN, 0, 2, "moult", 0, 0);
        x.bounds(UNKNOWN, 0, 2, "perch", 0, 0, 3);
        x.bounds(UNKNOWN, 0, 3, "perch", 1, 1, 0);
        x.refused(NOT, "perch", 1, 0);
        x.bounds(UNKNOWN, 0, 2, "cover", 0, 0);
        x.bounds(UNKNOWN, 0, 1, "sit", 0, 0, 2);
        x.bounds(UNKNOWN, NONE, 2, "sit", 1, 1, 0);
        x.refused(NOT, "sit", 1, 0);
        x.refused(NOT, "sit", 0, NONE);
        x.bounds(UNKNOWN, 0, 1, "keep", 0, 0);
        x.bounds(UNKNOWN, 0, 1, "back", 0, 0);
    }

    private static void foretold() {
        due.promise("20 to 26, numbers taken");
        Edges x = of(RefusalsTest::rich);
        x.bounds(UNKNOWN, 0, 3, "said", 0, 0, 0);
        x.bounds(OUTSIDE, 0, 15, "said", 1, 3, 0);
        x.bounds(UNKNOWN, 0, 2, "when", 0, 0, 0, 1);
        x.bounds(UNKNOWN, 0, 9, "when", 1, 0, 0, 1);
        x.bounds(OUTSIDE, 1, 9, "when", 2, 0, 0, 1);
        x.bounds(UNKNOWN, 0, 1, "keeps", 0, 0, 0, 1);
        x.bounds(UNKNOWN, 0, 2, "keeps", 1, 0, 0, 1);
        x.bounds(OUTSIDE, 1, 20, "keeps", 2, 0, 0, 1);
        x.bounds(OUTSIDE, 1, 20, "match", 0, 1, NONE);
        x.bounds(OUTSIDE, 1, 20, "match", 0, 1, 1);
        x.bounds(UNKNOWN, NONE, 1, "match", 1, 1, 0);
        x.bounds(UNKNOWN, 0, 2, "clean", 0, 0, 0, 1);
        x.bounds(UNKNOWN, 0, 9, "clean", 1, 0, 0, 1);
        x.bounds(OUTSIDE, 1, 20, "clean", 2, 0, 0, 1);
        x.bounds(UNKNOWN, 0, 3, "of", 0, 0, 0);
        x.bounds(OUTSIDE, 0, 1, "of", 1, 0, 0);
        x.bounds(UNKNOWN, 0, 9, "left", 0, 0, 3, 0);
        x.bounds(OUTSIDE, 0, 10, "left", 1, 0, 3, 0);
        x.bounds(OUTSIDE, 0, 1, "left", 2, 0, 3, 0);
    }

    private static void seen() {
        due.promise("27 to 29, 35, numbers taken");
        Edges x = of(RefusalsTest::unseen);
        x.bounds(UNKNOWN, 0, 3, "seen", 0, 0, 0, 0);
        x.bounds(OUTSIDE, 0, 9, "seen", 1, 0, 0, 0);
        x.bounds(UNKNOWN, NONE, 9, "seen", 2, 0, 0, 0);
        x.bounds(UNKNOWN, 0, 2, "kinds", 0, 0);
        x.bounds(OUTSIDE, 0, 9, "count", 0, 0);
        of(RefusalsTest::rich).refused(FULL, "seen", 0, 0, 0);
    }

    private static void reels() {
        due.promise("30 to 34, numbers taken");
        Edges x = of(RefusalsTest::rich);
        x.bounds(UNKNOWN, 0, 2, "reel", 0, 0, 0, 1);
        x.bounds(OUTSIDE, 0, 3, "reel", 1, 0, 0, 1);
        x.bounds(SIZE, 0, 12, OUTSIDE, "reel", 2, 0, 0, 1);
        x.bounds(UNKNOWN, 0, 2, "record", 0, 0, 0, 0, 0);
        x.bounds(OUTSIDE, 0, 3, "record", 1, 0, 0, 0, 0);
        x.bounds(INDEX, 0, 2, "record", 2, 0, 0, 0, 0);
        x.bounds(INDEX, 0, 1, "record", 2, 1, 3, 0, 0);
        x.bounds(UNKNOWN, NONE, 2, "record", 3, 1, 3, 0, 0);
        x.bounds(UNKNOWN, 0, 2, "play", 0, 0, 0, 0);
        x.bounds(OUTSIDE, 0, 3, "play", 1, 0, 0, 0);
        x.bounds(INDEX, 0, 2, "play", 2, 0, 0, 0);
        x.bounds(INDEX, 0, 1, "play", 2, 1, 3, 0);
        x.bounds(UNKNOWN, 0, 2, "splice", 0, 0, 0, 0, 0, 1);
        x.bounds(UNKNOWN, 0, 2, "splice", 2, 0, 0, 0, 0, 1);
        x.bounds(INDEX, 0, 2, "splice", 1, 0, 0, 0, 0, 1);
        x.bounds(INDEX, 0, 3, "splice", 1, 0, 0, 0, 0, 0);
        x.bounds(INDEX, 0, 2, "splice", 3, 0, 0, 0, 0, 1);
        x.bounds(INDEX, 0, 3, "splice", 3, 0, 0, 0, 0, 0);
        x.bounds(INDEX, 0, 3, "splice", 4, 0, 0, 0, 0, 0);
        x.bounds(INDEX, 0, 2, "splice", 4, 0, 1, 0, 0, 0);
        x.bounds(INDEX, 0, 1, "splice", 4, 0, 0, 0, 2, 0);
        x.bounds(UNKNOWN, 0, 2, "drop", 0, 0);
        x.refused(NULL, "drop", 2);
        x.refused(NULL, "play", 2, 0, 0);
        x.refused(NULL, "record", 2, 0, 0, 0);
        x.refused(NULL, "splice", 2, 0, 0, 0, 0);
        x.refused(NULL, "splice", 0, 0, 2, 0, 0);
        x.refused(NULL, "splice", 2, 0, 2, 0, 0);
        for (int sort = 0; sort < 4; sort++) {
            if (sort != 0) {
                x.refused(CAST, "play", 0, sort, 0);
                x.refused(CAST, "record", 0, sort, 0, 0);
            }
            if (sort != 3) {
                x.refused(CAST, "play", 1, sort, 0);
                x.refused(CAST, "record", 1, sort, 0, 0);
            }
        }
        x.refused(STORE, "splice", 0, 0, 1, 0, 0);
        x.refused(STORE, "splice", 1, 0, 0, 0, 1);
        x.refused(EMPTY, "play", 1, 3, 1);
    }

    private static void whileNothingIsThere() {
        due.promise("1, while nothing is there");
        Edges x = new Edges(due, "man j", ParrotSpeech::new);
        x.refused(UNKNOWN, "bird", 0, 0);
        x.refused(UNKNOWN, "man", 0, 0);
        x.refused(UNKNOWN, "known", 0, 0, 0);
        x.refused(UNKNOWN, "as", 0, 0);
        x.refused(UNKNOWN, "teach", 0, 0);
        x.refused(UNKNOWN, "moult", 0);
        x.refused(UNKNOWN, "perch", 0, 0);
        x.refused(UNKNOWN, "cover", 0);
        x.refused(UNKNOWN, "sit", 0, NONE);
        x.refused(UNKNOWN, "when", 0, 0, 1);
        x.refused(UNKNOWN, "keeps", 0, 0, 1);
        x.refused(UNKNOWN, "match", 1, 0);
        x.refused(UNKNOWN, "clean", 0, 0, 1);
        x.refused(UNKNOWN, "kinds", 0);
        x.refused(UNKNOWN, "record", 0, 3, 0, 0);
        x.refused(NULL, "record", 0, 3, 0, NONE);
        x.refused(NOT, "undo");
        x.refused(NOT, "back", 0);
        x.refused(NOT, "back", 1);
        x.refused(NOT, "of", 0, 0);
        x.refused(NOT, "harbour");
        x.refused(NOT, "tongue");
        x.refused(NONE, "said", 0, 0);
        x.refused(0, "erase");
        x.refused(0, "forget");
    }

    private static void whileAllIsFull() {
        due.promise("1, eight birds and four men");
        Edges x = new Edges(due, "knows 7 j 9", RefusalsTest::manyBirds);
        x.bounds(UNKNOWN, 0, 7, "bird", 0, 0, 0);
        x.bounds(UNKNOWN, 0, 3, "man", 0, 0, 0);
        x.bounds(UNKNOWN, 0, 7, "known", 0, 0, 0, 0);
        x.bounds(UNKNOWN, 0, 7, "as", 0, 0, 0);
        x.bounds(UNKNOWN, 0, 7, "teach", 0, 0, 0);
        x.bounds(UNKNOWN, 0, 7, "moult", 0, 0);
        x.bounds(UNKNOWN, 0, 7, "perch", 0, 0, 0);
        x.bounds(UNKNOWN, 0, 7, "cover", 0, 0);
        x.bounds(UNKNOWN, 0, 3, "sit", 0, 0, 0);
        x.bounds(UNKNOWN, NONE, 7, "sit", 1, 0, 0);
        x.bounds(UNKNOWN, 0, 7, "when", 0, 0, 0, 1);
        x.bounds(UNKNOWN, 0, 3, "keeps", 0, 0, 0, 1);
        x.bounds(UNKNOWN, 0, 7, "keeps", 1, 0, 0, 1);
        x.bounds(UNKNOWN, NONE, 3, "match", 1, 1, 0);
        x.bounds(UNKNOWN, 0, 7, "clean", 0, 0, 0, 1);
        x.bounds(UNKNOWN, 0, 7, "kinds", 0, 0);
        x.bounds(UNKNOWN, NONE, 7, "record", 3, 2, 3, 0, 0);
    }

    // ---- not now, and full

    private static void notNow() {
        due.promise("10, 14, 16, 17, 19, 25, not now");
        Edges x = new Edges(due, " j", RefusalsTest::justTold);
        x.refused(NOT, "undo");
        x.refused(NOT, "back", 0);
        x.refused(NOT, "back", 1);
        for (int perch = 0; perch < 4; perch++) {
            x.refused(NOT, "of", perch, 0);
            x.refused(NOT, "of", perch, 1);
            x.refused(NOT, "perch", perch, perch);
        }
        x.refused(NOT, "sit", 0, 1);
        x.refused(NOT, "harbour");
        x.refused(NOT, "tongue");
        boolean[][] is = {
            {true, true, false, false, false, false},
            {true, true, true, false, false, false},
            {true, false, false, false, true, false},
            {true, false, false, false, true, true},
            {true, true, false, true, false, false},
        };
        for (int bird = 0; bird < 5; bird++) {
            for (int kind = 0; kind < 6; kind++) {
                if (is[bird][kind]) {
                    due.that("as(" + bird + ", " + kind + ")", justTold().as(bird, kind) >= 0);
                } else {
                    x.refused(NOT, "as", bird, kind);
                }
            }
        }
    }

    private static void fullText() {
        due.promise("2 write, full");
        Edges x = new Edges(due, "", RefusalsTest::fullOfLetters);
        x.refused(FULL, "write", 0);
        x.refused(FULL, "write", 97);
        x.refused(FULL, "write", 255);
        x.refused(OUTSIDE, "write", -1);
        x.refused(OUTSIDE, "write", 256);
        ParrotSpeech y = fullOfLetters();
        due.is("fault(0)", y.fault(0), NONE);
        due.is("erase()", y.erase(), 200);
        due.is("write(0)", y.write(0), 1);
    }

    private static void fullTime() {
        due.promise("11 evening, full at 999");
        Edges x = new Edges(due, "hawk 3", () -> atEvening(999));
        x.refused(FULL, "evening", 1);
        x.refused(FULL, "evening", 12);
        x.refused(OUTSIDE, "evening", 13);
        x.refused(OUTSIDE, "evening", 0);
        due.is("count(2)", atEvening(999).count(2), 999);
    }

    private static void nearlyFullTime() {
        due.promise("11 evening, full ahead of 999");
        Edges x = new Edges(due, "hawk 3", () -> atEvening(988));
        x.refused(FULL, "evening", 12);
        due.is("evening(11)", atEvening(988).evening(11), 999);
        due.is("evening(12)", atEvening(987).evening(12), 999);
        Edges y = new Edges(due, "hawk 3", () -> atEvening(998));
        y.refused(FULL, "evening", 2);
        due.is("evening(1)", atEvening(998).evening(1), 999);
    }

    // ---- "the first of these that fits"

    private static void firstOfSeveral() {
        due.promise("of several refusals the first");
        Edges x = of(RefusalsTest::rich);
        x.refused(UNKNOWN, "bird", 3, 5);
        x.refused(UNKNOWN, "man", 2, 2);
        x.refused(UNKNOWN, "known", 3, 0, 61);
        x.refused(UNKNOWN, "known", 0, 10, -1);
        x.refused(UNKNOWN, "as", 3, 6);
        x.refused(UNKNOWN, "perch", 3, 0);
        x.refused(UNKNOWN, "sit", 2, NONE);
        x.refused(UNKNOWN, "sit", 2, 0);
        x.refused(UNKNOWN, "said", 4, 16);
        x.refused(UNKNOWN, "when", 3, 0, 0);
        x.refused(UNKNOWN, "when", 0, 10, 10);
        x.refused(UNKNOWN, "keeps", 2, 0, 0);
        x.refused(UNKNOWN, "keeps", 0, 3, 21);
        x.refused(UNKNOWN, "keeps", 0, NONE, 21);
        x.refused(UNKNOWN, "match", 0, 2);
        x.refused(UNKNOWN, "match", 21, -2);
        x.refused(UNKNOWN, "clean", 3, 0, 0);
        x.refused(UNKNOWN, "clean", 0, 10, 21);
        x.refused(UNKNOWN, "of", 4, 2);
        x.refused(UNKNOWN, "left", 10, 11, 0);
        x.refused(UNKNOWN, "left", -1, 0, 2);
        x.refused(UNKNOWN, "seen", 4, 0, 0);
        x.refused(UNKNOWN, "seen", 4, 10, 0);
        x.refused(UNKNOWN, "seen", 0, 10, 10);
        x.refused(UNKNOWN, "seen", 0, 0, 10);
        x.refused(OUTSIDE, "seen", 0, 10, 0);
        Edges y = new Edges(due, " j", RefusalsTest::justTold);
        y.refused(UNKNOWN, "back", 2);
        y.refused(UNKNOWN, "of", 4, 0);
        y.refused(OUTSIDE, "of", 0, 2);
        y.refused(OUTSIDE, "as", 0, 6);
    }

    private static void firstOfSeveralAtReels() {
        due.promise("of several refusals the first, reels");
        Edges x = of(RefusalsTest::rich);
        x.refused(UNKNOWN, "reel", 3, 4, 13);
        x.refused(UNKNOWN, "reel", 3, 0, -1);
        x.refused(OUTSIDE, "reel", 0, 4, -1);
        x.refused(UNKNOWN, "record", 3, 4, 9, 0);
        x.refused(UNKNOWN, "record", 2, 3, 9, 3);
        x.refused(UNKNOWN, "record", 0, 3, 9, 3);
        x.refused(UNKNOWN, "record", 1, 3, 9, -2);
        x.refused(OUTSIDE, "record", 2, 4, 9, 3);
        x.refused(OUTSIDE, "record", 0, 4, 9, 3);
        x.refused(NULL, "record", 2, 3, 9, 2);
        x.refused(NULL, "record", 2, 0, -1, 3);
        x.refused(CAST, "record", 0, 3, 9, 2);
        x.refused(CAST, "record", 1, 0, -1, 7);
        x.refused(UNKNOWN, "play", 3, 4, 9);
        x.refused(OUTSIDE, "play", 2, 4, 9);
        x.refused(OUTSIDE, "play", 0, 4, 9);
        x.refused(NULL, "play", 2, 0, 9);
        x.refused(CAST, "play", 0, 3, 9);
        x.refused(CAST, "play", 1, 0, 1);
        x.refused(UNKNOWN, "splice", 3, 9, 2, 9, -1);
        x.refused(UNKNOWN, "splice", 2, 9, 3, 9, -1);
        x.refused(NULL, "splice", 2, 9, 0, 9, -1);
        x.refused(NULL, "splice", 0, 9, 2, 9, -1);
        x.refused(STORE, "splice", 0, 9, 1, 9, -1);
        x.refused(STORE, "splice", 1, -1, 0, 0, 99);
    }

    private static void foretellingChangesNothing() {
        due.promise("FORETOLD (nothing changes)");
        Edges x = of(RefusalsTest::rich);
        x.unchanged("fault", 0);
        x.unchanged("fault", 1);
        x.unchanged("bird", 0, 4);
        x.unchanged("man", 0, 0);
        x.unchanged("known", 0, 0, 60);
        x.unchanged("as", 0, 0);
        x.unchanged("said", 0, 0);
        x.unchanged("when", 0, 9, 9);
        for (int man = 0; man < 2; man++) {
            for (int bird = 0; bird < 3; bird++) {
                x.unchanged("keeps", man, bird, 20);
            }
            x.unchanged("match", 20, man);
        }
        x.unchanged("match", 20, NONE);
        for (int word = 0; word < 10; word++) {
            x.unchanged("clean", 0, word, 20);
            x.unchanged("left", word, 7, 0);
        }
        x.unchanged("of", 0, 0);
        x.unchanged("of", 0, 1);
        for (int bird = 0; bird < 3; bird++) {
            x.unchanged("kinds", bird);
        }
        x.unchanged("play", 0, 0, 1);
        x.unchanged("count", 9);
    }
}
