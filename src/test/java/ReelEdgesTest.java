/** Promises 30 to 35: reels of no places and of twelve, values cut, ends, and what is counted. */
public final class ReelEdgesTest {
    private static final int NONE = -1, UNKNOWN = -2, OUTSIDE = -3;
    private static final int NULL = -11, CAST = -12, STORE = -13, INDEX = -14, EMPTY = -15, SIZE = -16;
    private static final int MIN = Integer.MIN_VALUE, MAX = Integer.MAX_VALUE;
    /** What the places of each sort hold at first, as play() tells it. */
    private static final int[] AT_FIRST = {100000, 100000, 0, EMPTY};
    private static final Due due = new Due();

    public static void main(String[] args) {
        missingAtFirst();
        ofNoPlaces();
        ofTwelvePlaces();
        anew();
        bytesCut();
        shortsCut();
        ints();
        birds();
        birdsThatAreGone();
        otherSorts();
        spliceEnds();
        spliceOverItself();
        spliceOfEachSort();
        spliceUnlike();
        dropped();
        countOfReels();
        countOfEach();
        due.end();
    }

    private static void missingAtFirst() {
        due.promise("REELS 0 .. 2 are missing (at first)");
        ParrotSpeech x = new ParrotSpeech();
        due.is("count(6)", x.count(6), 0);
        for (int reel = 0; reel < 3; reel++) {
            for (int sort = 0; sort < 4; sort++) {
                due.is("play(" + reel + ", " + sort + ", 0)", x.play(reel, sort, 0), NULL);
                due.is("record(" + reel + ", " + sort + ", 0, -1)", x.record(reel, sort, 0, NONE), NULL);
            }
            for (int to = 0; to < 3; to++) {
                due.is("splice(" + reel + ", 0, " + to + ", 0, 0)", x.splice(reel, 0, to, 0, 0), NULL);
            }
            due.is("drop(" + reel + ")", x.drop(reel), NULL);
        }
        for (int reel : new int[] {-1, 3, MIN, MAX}) {
            due.is("reel(" + reel + ", 0, 1)", x.reel(reel, 0, 1), UNKNOWN);
            due.is("drop(" + reel + ")", x.drop(reel), UNKNOWN);
        }
    }

    private static void ofNoPlaces() {
        due.promise("of 0 .. places");
        for (int sort = 0; sort < 4; sort++) {
            ParrotSpeech x = new ParrotSpeech();
            due.is("reel(1, " + sort + ", 0)", x.reel(1, sort, 0), 0);
            due.is("count(6)", x.count(6), 1);
            for (int i : new int[] {MIN, -1, 0, 1, MAX}) {
                due.is("play(1, " + sort + ", " + i + ")", x.play(1, sort, i), INDEX);
                due.is("record(1, " + sort + ", " + i + ", -1)", x.record(1, sort, i, NONE), INDEX);
            }
            due.is("splice(1, 0, 1, 0, 0)", x.splice(1, 0, 1, 0, 0), 0);
            due.is("splice(1, 0, 1, 0, 1)", x.splice(1, 0, 1, 0, 1), INDEX);
            due.is("splice(1, 1, 1, 0, 0)", x.splice(1, 1, 1, 0, 0), INDEX);
            due.is("splice(1, 0, 1, 1, 0)", x.splice(1, 0, 1, 1, 0), INDEX);
            due.is("drop(1)", x.drop(1), 0);
            due.is("drop(1)", x.drop(1), NULL);
        }
    }

    private static void ofTwelvePlaces() {
        due.promise("of .. 12 places (0 at first, of BIRDS nothing)");
        for (int sort = 0; sort < 4; sort++) {
            ParrotSpeech x = Due.harbour("hawk 0;hawk 0");
            due.is("reel(2, " + sort + ", 13)", x.reel(2, sort, 13), OUTSIDE);
            due.is("reel(2, " + sort + ", max)", x.reel(2, sort, MAX), OUTSIDE);
            due.is("reel(2, " + sort + ", -1)", x.reel(2, sort, -1), SIZE);
            due.is("reel(2, " + sort + ", min)", x.reel(2, sort, MIN), SIZE);
            due.is("play(2, " + sort + ", 0)", x.play(2, sort, 0), NULL);
            due.is("reel(2, " + sort + ", 12)", x.reel(2, sort, 12), 12);
            for (int i = 0; i < 12; i++) {
                due.is("play(2, " + sort + ", " + i + ")", x.play(2, sort, i), AT_FIRST[sort]);
            }
            due.is("play(2, " + sort + ", 12)", x.play(2, sort, 12), INDEX);
            due.is("play(2, " + sort + ", -1)", x.play(2, sort, -1), INDEX);
            due.is("record(2, " + sort + ", 12, 1)", x.record(2, sort, 12, 1), INDEX);
            due.that("record(2, " + sort + ", 11, 1)", x.record(2, sort, 11, 1) > 0);
            due.is("play(2, " + sort + ", 11)", x.play(2, sort, 11), sort == 0 || sort == 1 ? 100001 : 1);
            due.is("play(2, " + sort + ", 10)", x.play(2, sort, 10), AT_FIRST[sort]);
            due.is("drop(2)", x.drop(2), 12);
        }
    }

    private static void anew() {
        due.promise("A REEL is a new row of a SORT");
        for (int first = 0; first < 4; first++) {
            for (int then = 0; then < 4; then++) {
                ParrotSpeech x = Due.harbour("hawk 0;hawk 0");
                x.reel(0, first, 12);
                for (int i = 0; i < 12; i++) {
                    x.record(0, first, i, 1);
                }
                due.is("reel(0, " + then + ", 5)", x.reel(0, then, 5), 5);
                due.is("count(6)", x.count(6), 1);
                for (int i = 0; i < 5; i++) {
                    due.is("play(0, " + then + ", " + i + ")", x.play(0, then, i), AT_FIRST[then]);
                }
                due.is("play(0, " + then + ", 5)", x.play(0, then, 5), INDEX);
                due.is("play(0, " + first + ", 5)", x.play(0, first, 5), first == then ? INDEX : CAST);
                // A longer row behind a shorter one has nothing of the older places.
                x.reel(0, then, 12);
                due.is("play(0, " + then + ", 11)", x.play(0, then, 11), AT_FIRST[then]);
                x.drop(0);
                x.reel(0, then, 1);
                due.is("play(0, " + then + ", 0), dropped between", x.play(0, then, 0), AT_FIRST[then]);
            }
        }
    }

    // ---- values

    private static void cut(int sort, int[] values, int[] wants) {
        ParrotSpeech x = new ParrotSpeech();
        x.reel(0, sort, 1);
        for (int i = 0; i < values.length; i++) {
            due.is("record(0, " + sort + ", 0, " + values[i] + ")", x.record(0, sort, 0, values[i]), 100000 + wants[i]);
            due.is("play(0, " + sort + ", 0) of " + values[i], x.play(0, sort, 0), 100000 + wants[i]);
        }
    }

    private static void bytesCut() {
        due.promise("31 record, bytes cut to their lowest bits");
        cut(0, new int[] {0, 1, -1, 127, 128, 129, 255, 256, 257, -127, -128, -129, -255, -256, -257, 32767, 65535, MAX, MIN, MIN + 128},
            new int[] {0, 1, -1, 127, -128, -127, -1, 0, 1, -127, -128, 127, 1, 0, -1, -1, -1, -1, 0, -128});
    }

    private static void shortsCut() {
        due.promise("31 record, shorts cut to their lowest bits");
        cut(1, new int[] {0, -1, 255, 256, 32766, 32767, 32768, 32769, 65535, 65536, 65537, -32767, -32768, -32769, -65535, -65536, MAX, MIN},
            new int[] {0, -1, 255, 256, 32766, 32767, -32768, -32767, -1, 0, 1, -32767, -32768, 32767, 1, 0, -1, 0});
    }

    private static void ints() {
        due.promise("32 play, of ints the rest by 1000003");
        ParrotSpeech x = new ParrotSpeech();
        x.reel(0, 2, 2);
        int[] values = {0, 1, 1000002, 1000003, 1000004, 2000005, 2000006, MAX, -1, -2, -1000002, -1000003, -1000004, -2000006, -2000007, MIN, MIN + 1};
        int[] wants = {0, 1, 1000002, 0, 1, 1000002, 0, 477206, 2000000, 2000001, 3000001, 3000002, 2000000, 3000002, 2000000, 2477206, 2477205};
        for (int i = 0; i < values.length; i++) {
            due.is("record(0, 2, 1, " + values[i] + ")", x.record(0, 2, 1, values[i]), 1);
            due.is("play(0, 2, 1) of " + values[i], x.play(0, 2, 1), wants[i]);
            due.is("play(0, 2, 0)", x.play(0, 2, 0), 0);
        }
    }

    private static void birds() {
        due.promise("31 record, of BIRDS that BIRD (v NONE: nothing)");
        ParrotSpeech x = Due.harbour("hawk 0;hawk 0;hawk 0;hawk 0;hawk 0;hawk 0;hawk 0;hawk 0");
        x.reel(0, 3, 2);
        due.is("play(0, 3, 1)", x.play(0, 3, 1), EMPTY);
        for (int b = 0; b < 8; b++) {
            due.is("record(0, 3, 1, " + b + ")", x.record(0, 3, 1, b), b);
            due.is("play(0, 3, 1)", x.play(0, 3, 1), b);
        }
        for (int b : new int[] {8, -2, MIN, MAX}) {
            due.is("record(0, 3, 1, " + b + ")", x.record(0, 3, 1, b), UNKNOWN);
            due.is("play(0, 3, 1)", x.play(0, 3, 1), 7);
        }
        due.is("record(0, 3, 1, -1)", x.record(0, 3, 1, NONE), NONE);
        due.is("play(0, 3, 1)", x.play(0, 3, 1), EMPTY);
        due.is("record(0, 3, 1, -1), again", x.record(0, 3, 1, NONE), NONE);
        due.is("play(0, 3, 0)", x.play(0, 3, 0), EMPTY);
        due.is("play(0, 3, 2)", x.play(0, 3, 2), INDEX);
        // A number of another sort need be no bird's.
        x.reel(1, 2, 1);
        due.is("record(1, 2, 0, 8)", x.record(1, 2, 0, 8), 1);
        due.is("record(1, 2, 0, -2)", x.record(1, 2, 0, -2), 1);
    }

    private static void birdsThatAreGone() {
        due.promise("REELS stay behind harbour()");
        ParrotSpeech x = Due.harbour("hawk 0;hawk 0");
        x.reel(0, 3, 1);
        x.record(0, 3, 0, 1);
        Due.write(x, "harbour;grey 0");
        x.harbour();
        due.is("play(0, 3, 0), bird 1 gone", x.play(0, 3, 0), 1);
        due.is("record(0, 3, 0, 1), bird 1 gone", x.record(0, 3, 0, 1), UNKNOWN);
        due.is("record(0, 3, 0, 0)", x.record(0, 3, 0, 0), 0);
    }

    private static void otherSorts() {
        due.promise("CAST (it is of another SORT)");
        for (int sort = 0; sort < 4; sort++) {
            ParrotSpeech x = Due.harbour("hawk 0");
            x.reel(0, sort, 1);
            for (int as = 0; as < 4; as++) {
                due.is("play(0, " + as + ", 0) of " + sort, x.play(0, as, 0), as == sort ? AT_FIRST[sort] : CAST);
                due.is("play(0, " + as + ", 1) of " + sort, x.play(0, as, 1), as == sort ? INDEX : CAST);
                if (as != sort) {
                    due.is("record(0, " + as + ", 0, 0) of " + sort, x.record(0, as, 0, 0), CAST);
                    due.is("record(0, " + as + ", 1, 0) of " + sort, x.record(0, as, 1, 0), CAST);
                }
            }
            for (int as : new int[] {-1, 4, MIN, MAX}) {
                due.is("play(0, " + as + ", 0)", x.play(0, as, 0), OUTSIDE);
                due.is("record(0, " + as + ", 0, 0)", x.record(0, as, 0, 0), OUTSIDE);
                due.is("reel(0, " + as + ", 1)", x.reel(0, as, 1), OUTSIDE);
            }
        }
    }

    // ---- splice

    /** A reel of ints, of as many places as values are told. */
    private static void wind(ParrotSpeech x, int reel, int... values) {
        x.reel(reel, 2, values.length);
        for (int i = 0; i < values.length; i++) {
            x.record(reel, 2, i, values[i]);
        }
    }

    private static void holds(ParrotSpeech x, int reel, int... wants) {
        for (int i = 0; i < wants.length; i++) {
            due.is("play(" + reel + ", 2, " + i + ")", x.play(reel, 2, i), wants[i]);
        }
        due.is("play(" + reel + ", 2, " + wants.length + ")", x.play(reel, 2, wants.length), INDEX);
    }

    private static void spliceEnds() {
        due.promise("INDEX (a place that there is not, or beyond an end, or fewer than none)");
        int[] far = {MIN, MIN + 1, -2, -1, 0, 1, 2, 3, 4, 5, 6, 12, 13, MAX - 1, MAX};
        int refused = 0;
        for (int i : far) {
            for (int j : far) {
                for (int n : far) {
                    ParrotSpeech x = new ParrotSpeech();
                    wind(x, 0, 1, 2, 3, 4, 5);
                    wind(x, 1, 6, 7, 8);
                    boolean fits = i >= 0 && j >= 0 && n >= 0 && (long) i + n <= 5 && (long) j + n <= 3;
                    due.is("splice(0, " + i + ", 1, " + j + ", " + n + ")", x.splice(0, i, 1, j, n), fits ? n : INDEX);
                    for (int place = 0; place < 3; place++) {
                        int want = fits && place >= j && place < j + n ? i + place - j + 1 : place + 6;
                        due.is("play(1, 2, " + place + ")", x.play(1, 2, place), want);
                    }
                    refused += fits ? 0 : 1;
                }
            }
        }
        due.that("some are refused", refused > 0);
    }

    private static void spliceOverItself() {
        due.promise("33 splice, itself, as if all was taken ahead");
        for (int i = 0; i <= 6; i++) {
            for (int j = 0; j <= 6; j++) {
                for (int n = 0; n <= 6; n++) {
                    ParrotSpeech x = new ParrotSpeech();
                    wind(x, 2, 1, 2, 3, 4, 5, 6);
                    boolean fits = i + n <= 6 && j + n <= 6;
                    due.is("splice(2, " + i + ", 2, " + j + ", " + n + ")", x.splice(2, i, 2, j, n), fits ? n : INDEX);
                    int[] wants = {1, 2, 3, 4, 5, 6};
                    for (int k = 0; k < n && fits; k++) {
                        wants[j + k] = i + k + 1;
                    }
                    holds(x, 2, wants);
                }
            }
        }
    }

    private static void spliceOfEachSort() {
        due.promise("33 splice, of each SORT, n 0 .. 12");
        for (int sort = 0; sort < 4; sort++) {
            for (int n = 0; n <= 13; n++) {
                ParrotSpeech x = Due.harbour("hawk 0;hawk 0;hawk 0");
                x.reel(0, sort, 12);
                x.reel(1, sort, 12);
                for (int i = 0; i < 12; i++) {
                    x.record(0, sort, i, i % 3 - 1);
                    x.record(1, sort, i, 2);
                }
                due.is("splice(0, 0, 1, 0, " + n + ")", x.splice(0, 0, 1, 0, n), n <= 12 ? n : INDEX);
                for (int i = 0; i < 12; i++) {
                    int reel = i < n && n <= 12 ? 0 : 1;
                    int want = reel == 0 ? x.play(0, sort, i) : sort < 2 ? 100002 : 2;
                    due.is("play(1, " + sort + ", " + i + ")", x.play(1, sort, i), want);
                }
                due.is("play(0, " + sort + ", 0)", x.play(0, sort, 0), new int[] {99999, 99999, 2000000, EMPTY}[sort]);
            }
        }
    }

    private static void spliceUnlike() {
        due.promise("STORE (REELS of unlike SORTS)");
        for (int from = 0; from < 4; from++) {
            for (int to = 0; to < 4; to++) {
                ParrotSpeech x = new ParrotSpeech();
                x.reel(0, from, 2);
                x.reel(2, to, 2);
                due.is("splice(0, 0, 2, 0, 2)", x.splice(0, 0, 2, 0, 2), from == to ? 2 : STORE);
                due.is("splice(0, 0, 2, 0, 3)", x.splice(0, 0, 2, 0, 3), from == to ? INDEX : STORE);
                due.is("splice(0, 0, 2, 0, 0)", x.splice(0, 0, 2, 0, 0), from == to ? 0 : STORE);
                due.is("splice(0, 0, 1, 0, 0)", x.splice(0, 0, 1, 0, 0), NULL);
                due.is("splice(1, 0, 2, 0, 0)", x.splice(1, 0, 2, 0, 0), NULL);
            }
        }
    }

    // ---- drop, count

    private static void dropped() {
        due.promise("34 drop, missing from now on");
        for (int n = 0; n <= 12; n++) {
            ParrotSpeech x = new ParrotSpeech();
            x.reel(0, 2, n);
            x.reel(1, 2, 1);
            due.is("drop(0)", x.drop(0), n);
            due.is("drop(0)", x.drop(0), NULL);
            due.is("play(0, 2, 0)", x.play(0, 2, 0), NULL);
            due.is("record(0, 2, 0, 1)", x.record(0, 2, 0, 1), NULL);
            due.is("splice(0, 0, 1, 0, 0)", x.splice(0, 0, 1, 0, 0), NULL);
            due.is("splice(1, 0, 0, 0, 0)", x.splice(1, 0, 0, 0, 0), NULL);
            due.is("play(1, 2, 0)", x.play(1, 2, 0), 0);
            due.is("count(6)", x.count(6), 1);
        }
    }

    private static void countOfReels() {
        due.promise("35 count, 6 REELS that are there");
        ParrotSpeech x = new ParrotSpeech();
        for (int reel = 0; reel < 3; reel++) {
            due.is("count(6)", x.count(6), reel);
            x.reel(reel, reel, 0);
        }
        due.is("count(6)", x.count(6), 3);
        x.reel(0, 3, 12);
        due.is("count(6), one anew", x.count(6), 3);
        x.reel(0, 3, 13);
        x.reel(0, 3, -1);
        due.is("count(6), none anew", x.count(6), 3);
        for (int reel = 0; reel < 3; reel++) {
            x.drop(reel);
            due.is("count(6), dropped", x.count(6), 2 - reel);
        }
    }

    private static void countOfEach() {
        due.promise("35 count, none and all");
        ParrotSpeech x = Due.harbour("hawk 0;hawk 0;hawk 0;hawk 0;hawk 0;hawk 0;hawk 0;hawk 0;man abcdefghij;man abcdefghij;man abcdefghij;man abcdefghij");
        due.is("count(0)", x.count(0), 8);
        due.is("count(1)", x.count(1), 4);
        due.is("count(4)", x.count(4), 40);
        due.is("count(9)", x.count(9), 0);
        for (int b = 0; b < 8; b++) {
            x.cover(b);
            due.is("count(3)", x.count(3), (2 << b) - 1);
        }
        for (int w = 0; w < 10; w++) {
            x.teach(w % 8, w);
            due.is("count(9), known by 3", x.count(9), (1 << w) - 1);
            x.teach(w % 8, w);
            due.is("count(9), known by 6", x.count(9), (2 << w) - 1);
        }
        due.is("count(7)", x.count(7), 8);
        ParrotSpeech y = Due.harbour("hawk 0;hawk 0;knows 0 a 4;knows 1 b 5;knows 0 j 5;cover 1");
        due.is("count(9)", y.count(9), 2 | 512);
        due.is("bird(0, 4)", y.bird(0, 4), 512);
        due.is("bird(1, 4)", y.bird(1, 4), 2);
        for (int what : new int[] {-1, 10, MIN, MAX}) {
            due.is("count(" + what + ")", y.count(what), OUTSIDE);
        }
    }
}
