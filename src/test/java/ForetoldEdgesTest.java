import java.math.BigInteger;

/** Promises 20 to 29: what is foretold, and what was seen, at its edges. */
public final class ForetoldEdgesTest {
    private static final int NONE = -1, UNKNOWN = -2, OUTSIDE = -3, NOT = -4, FULL = -5;
    private static final Due due = new Due();
    private static final String LINE = "cockatoo 0;cockatoo 0;cockatoo 0;cockatoo 0;cockatoo 0;cockatoo 0;cockatoo 0;cockatoo 0;knows 0 a 9;knows 0 b 8";

    public static void main(String[] args) {
        saidUpToSixteen();
        saidOfTheNextEvening();
        whenAtOnce();
        whenByAndBy();
        whenLateOrNever();
        knownFarOn();
        keepsByFiveOrMore();
        keepsOfWhatHeHasNow();
        keepsSetByHim();
        keepsBehindTwenty();
        matchOfNobody();
        matchOfFewBirds();
        matchOfMany();
        matchTogether();
        cleanByLessThanFive();
        cleanWithoutTheOneTold();
        cleanWithFewest();
        cleanWithLeast();
        cleanOfCoveredOnes();
        cleanNone();
        foretoldFromNow();
        ofNothingSaid();
        ofAllSaid();
        ofDeepBrackets();
        ofBlanks();
        ofSums();
        ofLongest();
        leftOfAll();
        leftInLowestTerms();
        seenSix();
        seenPlaces();
        kindsOfAll();
        kindsFromNowOn();
        due.end();
    }

    // ---- said, when, known

    private static void saidUpToSixteen() {
        due.promise("20 said, the i-th WORD (0 .. 15)");
        ParrotSpeech x = Due.harbour(LINE);
        for (int i = 0; i < 16; i++) {
            due.is("said(0, " + i + ")", x.said(0, i), i % 2);
        }
        due.is("said(0, 16)", x.said(0, 16), OUTSIDE);
        x.cover(7);
        due.is("said(0, 13)", x.said(0, 13), 1);
        due.is("said(0, 14)", x.said(0, 14), NONE);
        due.is("said(0, 15)", x.said(0, 15), NONE);
        due.is("said(3, 0)", x.said(3, 0), NONE);
    }

    private static void saidOfTheNextEvening() {
        due.promise("20 said, in the next EVENING");
        ParrotSpeech x = Due.harbour("parrot 0;man cd;sits 0 0");
        due.is("said(0, 0)", x.said(0, 0), 2);
        due.is("said(0, 0), again", x.said(0, 0), 2);
        x.evening(1);
        due.is("said(0, 0), an evening on", x.said(0, 0), 2);
        due.is("man(0, 0)", x.man(0, 0), 8);
        x.evening(2);
        // d is got by 3 and c lost by 1 in the third evening: both known by 2, c the lesser.
        due.is("known(0, 2, 0)", x.known(0, 2, 0), 2);
        due.is("known(0, 3, 0)", x.known(0, 3, 0), 2);
        due.is("said(0, 0)", x.said(0, 0), 2);
    }

    private static void whenAtOnce() {
        due.promise("21 when, 0 EVENINGS");
        ParrotSpeech x = Due.harbour("parrot 0;knows 0 a 4;knows 0 b 9");
        for (int k = 1; k <= 9; k++) {
            due.is("when(0, 0, " + k + ")", x.when(0, 0, k), k <= 4 ? 0 : NONE);
            due.is("when(0, 1, " + k + ")", x.when(0, 1, k), 0);
            due.is("when(0, 2, " + k + ")", x.when(0, 2, k), NONE);
        }
    }

    private static void whenByAndBy() {
        due.promise("21 when, by k (1 .. 9) or more");
        // One hearing an evening, lost again in the third while known by 1 to 4.
        ParrotSpeech x = Due.harbour("parrot 0;parrot 0;knows 0 a 9");
        int[] wants = {1, 2, 4, 5, 6, 7, 8, 9, 10};
        for (int k = 1; k <= 9; k++) {
            due.is("when(1, 0, " + k + ")", x.when(1, 0, k), wants[k - 1]);
        }
        // A green one goes over odd numbers.
        ParrotSpeech y = Due.harbour("parrot 0;green 0;knows 0 a 9");
        int[] overOdd = {1, 1, 2, 2, 3, 3, 4, 4, 5};
        for (int k = 1; k <= 9; k++) {
            due.is("when(1, 0, " + k + ") of green", y.when(1, 0, k), overOdd[k - 1]);
        }
        // Known for a while only: the first time counts.
        ParrotSpeech z = Due.harbour("parrot 0;man a;sits 0 0");
        due.is("when(0, 0, 3)", z.when(0, 0, 3), 1);
        due.is("known(0, 0, 3)", z.known(0, 0, 3), 2);
        due.is("known(0, 0, 9)", z.known(0, 0, 9), 0);
        due.is("when(0, 0, 4)", z.when(0, 0, 4), NONE);
    }

    private static void whenLateOrNever() {
        due.promise("21 when (0 .. 60); none");
        ParrotSpeech x = Due.harbour("parrot 0;cockatoo 0;man abcefghi;knows 0 j 8;knows 1 i 3;sits 0 1");
        due.is("when(1, 8, 9)", x.when(1, 8, 9), 28);
        due.is("known(1, 8, 27)", x.known(1, 8, 27), 8);
        due.is("known(1, 8, 28)", x.known(1, 8, 28), 9);
        x.evening(12);
        due.is("when(1, 8, 9), 12 on", x.when(1, 8, 9), 16);
        x.evening(12);
        x.evening(4);
        due.is("when(1, 8, 9), 28 on", x.when(1, 8, 9), 0);
        due.is("when(0, 3, 1)", x.when(0, 3, 1), NONE);
    }

    private static void knownFarOn() {
        due.promise("9 known, behind n EVENINGS (0 .. 60)");
        ParrotSpeech x = Due.harbour("grey 0;grey 0;knows 0 b 1");
        // The second one says b as soon as it has heard it, so both hear it once an evening.
        for (int n = 0; n <= 60; n++) {
            due.is("known(0, 1, " + n + ")", x.known(0, 1, n), Math.min(9, n + 1));
            due.is("known(1, 1, " + n + ")", x.known(1, 1, n), Math.min(9, n));
        }
        due.is("known(0, 1, 61)", x.known(0, 1, 61), OUTSIDE);
        due.is("count(2)", x.count(2), 0);
    }

    // ---- keeps, match

    private static void keepsByFiveOrMore() {
        due.promise("22 keeps, it KNOWS by 5 or more");
        for (int n = 0; n < 10; n++) {
            due.is("keeps(0, 0, 1), parrot " + n, Due.harbour("parrot 0;man a;knows 0 a " + n).keeps(0, 0, 1), n + 3 >= 5 ? 1 : 0);
            due.is("keeps(0, 0, 1), grey " + n, Due.harbour("grey 0;man a;knows 0 a " + n).keeps(0, 0, 1), 1);
            due.is("keeps(0, 0, 1), hawk " + n, Due.harbour("hawk 0;man a;knows 0 a " + n).keeps(0, 0, 1), n >= 5 ? 1 : 0);
            due.is("keeps(0, 0, 1), covered " + n, Due.harbour("grey 0;man a;cover 0;knows 0 a " + n).keeps(0, 0, 1), n >= 5 ? 1 : 0);
        }
    }

    private static void keepsOfWhatHeHasNow() {
        due.promise("22 keeps, of the WORDS that he HAS now");
        ParrotSpeech x = Due.harbour("grey 0;man ab;knows 0 c 9;knows 0 b 5");
        due.is("keeps(0, 0, 1)", x.keeps(0, 0, 1), 2);
        x.sit(0, 0);
        x.evening(1);
        due.is("keeps(0, 0, 1), a gone over", x.keeps(0, 0, 1), 1);
        x.evening(1);
        due.is("keeps(0, 0, 1), all gone over", x.keeps(0, 0, 1), 0);
        due.is("keeps(0, 0, 20), all gone over", x.keeps(0, 0, 20), 0);
    }

    private static void keepsSetByHim() {
        due.promise("22 keeps, were it SET by him now");
        ParrotSpeech x = Due.harbour("grey 0;grey 1;man a;man b;sits 0 0;sits 1 1");
        for (int man = 0; man < 2; man++) {
            for (int bird = 0; bird < 2; bird++) {
                due.is("keeps(" + man + ", " + bird + ", 1)", x.keeps(man, bird, 1), 1);
            }
        }
        due.is("man(0, 1)", x.man(0, 1), 0);
        due.is("man(1, 1)", x.man(1, 1), 1);
        // The other one gives it no word then, so it says b and not a, and the next bird hears b.
        ParrotSpeech y = Due.harbour("parrot 0;green 0;man a;man b;sits 0 0;knows 1 b 3");
        due.is("keeps(1, 0, 1)", y.keeps(1, 0, 1), 0);
        due.is("keeps(1, 1, 1)", y.keeps(1, 1, 1), 0);
        y.sit(1, 0);
        due.is("known(1, 1, 1)", y.known(1, 1, 1), 5);
    }

    private static void keepsBehindTwenty() {
        due.promise("22 keeps, behind n EVENINGS (1 .. 20)");
        ParrotSpeech x = Due.harbour("grey 0;man abcdefghij");
        for (int n = 1; n <= 20; n++) {
            due.is("keeps(0, 0, " + n + ")", x.keeps(0, 0, n), Math.min(10, n));
        }
        due.is("keeps(0, 0, 0)", x.keeps(0, 0, 0), OUTSIDE);
        due.is("keeps(0, 0, 21)", x.keeps(0, 0, 21), OUTSIDE);
        due.is("keeps(0, -1, 1)", x.keeps(0, NONE, 1), UNKNOWN);
    }

    private static void matchOfNobody() {
        due.promise("23 match, no BIRDS, no MEN");
        due.is("match(1, -1) of none", new ParrotSpeech().match(1, NONE), 0);
        due.is("match(20, 0) of none", new ParrotSpeech().match(20, 0), UNKNOWN);
        due.is("match(1, -1) of birds", Due.harbour("grey 0").match(1, NONE), 0);
        ParrotSpeech x = Due.harbour("man a;man b;man c;man d");
        due.is("match(20, -1) of men", x.match(20, NONE), 0);
        for (int man = 0; man < 4; man++) {
            due.is("match(20, " + man + ") of men", x.match(20, man), NONE);
        }
    }

    private static void matchOfFewBirds() {
        due.promise("23 match, or none (none KEEPS 0)");
        ParrotSpeech x = Due.harbour("grey 0;man a;man b;man c;man d");
        due.is("match(1, -1)", x.match(1, NONE), 1);
        int[] first = {0, NONE, NONE, NONE};
        for (int man = 0; man < 4; man++) {
            due.is("match(1, " + man + ")", x.match(1, man), first[man]);
        }
        ParrotSpeech y = Due.harbour("grey 0;man a;man b;man cd;man d");
        due.is("match(2, -1)", y.match(2, NONE), 2);
        int[] third = {NONE, NONE, 0, NONE};
        for (int man = 0; man < 4; man++) {
            due.is("match(2, " + man + ")", y.match(2, man), third[man]);
        }
    }

    private static void matchOfMany() {
        due.promise("23 match, of several the first (MAN by MAN the lesser BIRD, none last)");
        ParrotSpeech x = Due.harbour("hawk 0;hawk 0;hawk 0;hawk 0;hawk 0;hawk 0;hawk 0;grey 1;man a;man b;man c;man d");
        due.is("match(1, -1)", x.match(1, NONE), 1);
        int[] last = {0, 1, 2, 7};
        for (int man = 0; man < 4; man++) {
            due.is("match(1, " + man + ")", x.match(1, man), last[man]);
        }
        ParrotSpeech y = Due.harbour("hawk 0;hawk 1;hawk 2;hawk 3;hawk 0;hawk 1;hawk 2;hawk 3;man a;man b;man c;man d;knows 7 a 5;knows 6 b 5;knows 5 c 5;knows 4 d 5");
        due.is("match(20, -1)", y.match(20, NONE), 4);
        for (int man = 0; man < 4; man++) {
            due.is("match(20, " + man + ")", y.match(20, man), 7 - man);
        }
    }

    private static void matchTogether() {
        due.promise("23 match, so that KEEPS are most together");
        // Each for himself would take bird 0.
        ParrotSpeech x = Due.harbour("hawk 0;hawk 1;man abc;man ab;knows 0 a 5;knows 0 b 5;knows 0 c 5;knows 1 a 5;knows 1 b 5");
        due.is("keeps(0, 0, 1)", x.keeps(0, 0, 1), 3);
        due.is("keeps(0, 1, 1)", x.keeps(0, 1, 1), 2);
        due.is("keeps(1, 0, 1)", x.keeps(1, 0, 1), 2);
        due.is("keeps(1, 1, 1)", x.keeps(1, 1, 1), 2);
        due.is("match(1, -1)", x.match(1, NONE), 5);
        due.is("match(1, 0)", x.match(1, 0), 0);
        due.is("match(1, 1)", x.match(1, 1), 1);
        ParrotSpeech y = Due.harbour("hawk 0;hawk 1;man ab;man abc;knows 0 a 5;knows 0 b 5;knows 0 c 5;knows 1 a 5;knows 1 b 5");
        due.is("match(1, -1)", y.match(1, NONE), 5);
        due.is("match(1, 0)", y.match(1, 0), 1);
        due.is("match(1, 1)", y.match(1, 1), 0);
        // 3 and 0 against 2 and 1: alike, so the first man has the lesser bird.
        ParrotSpeech z = Due.harbour("hawk 0;hawk 1;man abc;man a;knows 0 a 5;knows 0 b 5;knows 1 a 5;knows 1 b 5");
        due.is("match(1, -1)", z.match(1, NONE), 3);
        due.is("match(1, 0)", z.match(1, 0), 0);
        due.is("match(1, 1)", z.match(1, 1), 1);
    }

    // ---- clean

    private static void cleanByLessThanFive() {
        due.promise("24 clean, it KNOWS a WORD by less than 5");
        for (int n = 0; n < 10; n++) {
            due.is("clean(0, 0, 1) of " + n, Due.harbour("grey 0;knows 0 a " + n).clean(0, 0, 1), n < 5 ? 0 : NONE);
            due.is("clean(0, 0, 20) of " + n, Due.harbour("grey 0;knows 0 a " + n).clean(0, 0, 20), n < 5 ? 0 : NONE);
            due.is("clean(0, 0, 1) of " + n + ", one more heard",
                Due.harbour("grey 0;grey 0;knows 1 a 9;knows 0 a " + n).clean(0, 0, 1), n < 4 ? 0 : n < 5 ? 2 : NONE);
        }
    }

    private static void cleanWithoutTheOneTold() {
        due.promise("24 clean, the set of BIRDS, not the one told");
        ParrotSpeech x = Due.harbour("grey 0;grey 0;knows 1 a 9;knows 0 a 4;grey 0;knows 2 a 4");
        due.is("clean(0, 0, 1)", x.clean(0, 0, 1), 2 | 4);
        due.is("clean(2, 0, 1)", x.clean(2, 0, 1), 1 | 2);
        ParrotSpeech y = Due.harbour("grey 0;man a;sits 0 0;grey 0");
        due.is("clean(0, 0, 1), from its man", y.clean(0, 0, 1), NONE);
    }

    private static void cleanWithFewest() {
        due.promise("24 clean, the fewest");
        // With 0 and 1 covered only 2 is heard: 3 of it; with 2 covered there is nothing to be heard.
        ParrotSpeech x = Due.harbour("grey 0;grey 0;grey 0;grey 0;knows 2 a 9");
        due.is("clean(3, 0, 3)", x.clean(3, 0, 3), 4);
        x.cover(0);
        x.cover(1);
        due.is("clean(3, 0, 3), 0 and 1 covered", x.clean(3, 0, 3), 0);
        ParrotSpeech all = Due.harbour("grey 0;grey 0;grey 0;grey 0;grey 0;grey 0;grey 0;grey 0;knows 1 a 9;knows 2 a 9;knows 3 a 9;knows 4 a 9;knows 5 a 9;knows 6 a 9;knows 7 a 9;knows 0 a 4");
        due.is("clean(0, 0, 20), all seven others", all.clean(0, 0, 20), 254);
        ParrotSpeech last = Due.harbour("grey 0;grey 0;grey 0;grey 0;grey 0;grey 0;grey 0;grey 0;knows 1 a 9;knows 2 a 9;knows 3 a 9;knows 4 a 9;knows 5 a 9;knows 6 a 9;knows 0 a 9;knows 7 a 4");
        due.is("clean(7, 0, 20), all seven others", last.clean(7, 0, 20), 127);
    }

    private static void cleanWithLeast() {
        due.promise("24 clean, of as few the least");
        ParrotSpeech x = Due.harbour("grey 0;grey 0;grey 0;knows 0 a 9;knows 1 a 9;knows 2 a 3");
        due.is("clean(2, 0, 1)", x.clean(2, 0, 1), 1);
        ParrotSpeech y = Due.harbour("grey 0;grey 0;grey 0;knows 2 a 9;knows 1 a 9;knows 0 a 3");
        due.is("clean(0, 0, 1)", y.clean(0, 0, 1), 2);
        // 0 and 3 (9) would do as well as 1 and 2 (6).
        ParrotSpeech z = Due.harbour("grey 0;cockatoo 0;grey 0;cockatoo 0;parrot 0;knows 2 a 1;knows 3 a 3;knows 4 c 8");
        due.is("clean(4, 0, 3)", z.clean(4, 0, 3), 6);
        z.cover(0);
        z.cover(3);
        due.that("known(4, 0, 3) < 5, 0 and 3 covered", z.known(4, 0, 3) < 5);
    }

    private static void cleanOfCoveredOnes() {
        due.promise("24 clean, not COVERED ones");
        ParrotSpeech x = Due.harbour("grey 0;grey 0;grey 0;knows 1 a 9;knows 2 a 9;knows 0 a 4;cover 1");
        due.is("clean(0, 0, 1)", x.clean(0, 0, 1), 4);
        x.cover(2);
        due.is("clean(0, 0, 1), both covered", x.clean(0, 0, 1), 0);
        x.cover(1);
        x.cover(2);
        x.cover(0);
        due.is("clean(0, 0, 20), itself covered", x.clean(0, 0, 20), 0);
        // Were the hawk covered, there would be talk.
        ParrotSpeech y = Due.harbour("hawk 0;grey 0;grey 0;knows 2 a 9;knows 1 a 4");
        due.is("clean(1, 0, 20), a hawk there", y.clean(1, 0, 20), 0);
        y.cover(0);
        due.is("clean(1, 0, 20), a covered hawk there", y.clean(1, 0, 20), 4);
        due.is("count(3)", y.count(3), 1);
    }

    private static void cleanNone() {
        due.promise("24 clean; none");
        ParrotSpeech x = Due.harbour("hawk 0;grey 0;knows 0 j 5;knows 1 j 9");
        due.is("clean(0, 9, 1)", x.clean(0, 9, 1), NONE);
        due.is("clean(0, 8, 1)", x.clean(0, 8, 1), 0);
        // By 3 more from its man, whom no cloth stops but its own: by 5, and by 4.
        ParrotSpeech y = Due.harbour("parrot 0;knows 0 a 2;man a;sits 0 0");
        due.is("clean(0, 0, 1)", y.clean(0, 0, 1), NONE);
        ParrotSpeech z = Due.harbour("parrot 0;knows 0 a 1;man a;sits 0 0");
        due.is("clean(0, 0, 1)", z.clean(0, 0, 1), 0);
    }

    private static void foretoldFromNow() {
        due.promise("FORETOLD, nothing but EVENINGS being done from now");
        ParrotSpeech x = Due.harbour("grey 0;grey 1;knows 1 a 9;knows 0 a 4;man ab;hawk 2");
        due.is("clean(0, 0, 1)", x.clean(0, 0, 1), 0);
        x.perch(1, 0);
        due.is("clean(0, 0, 1), 1 come there", x.clean(0, 0, 1), 2);
        x.perch(2, 0);
        due.is("clean(0, 0, 1), a hawk come there", x.clean(0, 0, 1), 0);
        due.is("keeps(0, 2, 1)", x.keeps(0, 2, 1), 0);
        due.is("match(1, -1)", x.match(1, NONE), 1);
        due.is("left(1, 5, 1)", x.left(1, 5, 1), 1);
        x.teach(2, 1);
        x.teach(2, 1);
        due.is("keeps(0, 2, 1), taught", x.keeps(0, 2, 1), 1);
        due.is("left(1, 5, 1), taught", x.left(1, 5, 1), 2);
        x.teach(2, 0);
        x.teach(2, 0);
        due.is("match(1, -1), taught", x.match(1, NONE), 2);
        due.is("match(1, 0), taught", x.match(1, 0), 2);
        x.moult(2);
        due.is("left(1, 5, 1), moulting", x.left(1, 5, 1), 1);
        due.is("match(1, -1), moulting", x.match(1, NONE), 1);
        due.is("when(2, 1, 3)", x.when(2, 1, 3), 0);
        due.is("when(2, 1, 4)", x.when(2, 1, 4), NONE);
    }

    // ---- of

    private static void tongue(ParrotSpeech x, int perch, String text, int whole, int longest) {
        Due.tongue(x, text);
        due.is("of(" + perch + ", 0) of " + text, x.of(perch, 0), whole);
        due.is("of(" + perch + ", 1) of " + text, x.of(perch, 1), longest);
    }

    private static void ofNothingSaid() {
        due.promise("25 of, nothing is SAID");
        ParrotSpeech x = Due.harbour("hawk 0;parrot 0;knows 1 a 9;parrot 3;cover 2;knows 2 a 9");
        due.is("of(0, 0), no tongue", x.of(0, 0), NOT);
        for (int perch = 0; perch < 4; perch++) {
            tongue(x, perch, "a*", 1, 0);
            tongue(x, perch, "a", 0, NONE);
            tongue(x, perch, ".", 0, NONE);
            tongue(x, perch, "b|.*", 1, 0);
            tongue(x, perch, "(a*)(b*)", 1, 0);
            tongue(x, perch, "(a*)b", 0, NONE);
            tongue(x, perch, "(a|b*)*", 1, 0);
        }
    }

    private static void ofAllSaid() {
        due.promise("25 of, sixteen WORDS SAID");
        ParrotSpeech x = Due.harbour(LINE);
        tongue(x, 0, "(ab)*", 1, 16);
        tongue(x, 0, "abababababababab", 1, 16);
        tongue(x, 0, "ababababababababa", 0, NONE);
        tongue(x, 0, "ababababababababa*", 1, 16);
        tongue(x, 0, "ababababababababc*", 1, 16);
        tongue(x, 0, "abababababababa", 0, 15);
        tongue(x, 0, "((((((.*)*)*)*)*)*)*", 1, 16);
        tongue(x, 0, "(aba|b)*", 1, 16);
        tongue(x, 0, "(ab|a)*", 1, 16);
        tongue(x, 0, "(aba)*", 0, 3);
        tongue(x, 0, "(...)*", 0, 15);
    }

    private static void ofDeepBrackets() {
        due.promise("25 of, PART is ( SUM ), ( 6 deep");
        ParrotSpeech x = Due.harbour(LINE);
        tongue(x, 0, "((((((a))))))", 0, 1);
        tongue(x, 0, "((((((ab))))))*", 1, 16);
        tongue(x, 0, "(a(b(a(b(a(b))))))", 0, 6);
        tongue(x, 0, "((((((a)b)a)b)a)b)", 0, 6);
        tongue(x, 0, "(c|(c|(c|(c|(c|(a|c))))))b", 0, 2);
        tongue(x, 0, "((((((a|c)|c)|c)|c)|c)|c)b", 0, 2);
        tongue(x, 0, "((a)(b))((a)(b))", 0, 4);
        ParrotSpeech y = Due.harbour(LINE);
        tongue(y, 0, "(((((( a )))))) ((((((b)))))) (a)(b)", 0, 4);
        // Two hundred letters, and the last of them counts.
        tongue(y, 0, "j|".repeat(99) + "ab", 0, 2);
    }

    private static void ofBlanks() {
        due.promise("25 of, each letter by itself, blanks between");
        ParrotSpeech x = Due.harbour("cockatoo 2;knows 0 c 9;knows 0 d 8");
        tongue(x, 2, " c  d ", 1, 2);
        tongue(x, 2, " ( c ) * d * ", 1, 2);
        tongue(x, 2, "a | c d | b", 1, 2);
        tongue(x, 2, " . . ", 1, 2);
    }

    private static void ofSums() {
        due.promise("25 of, SUM is ROW, perhaps |, ROW ..");
        ParrotSpeech x = Due.harbour("parrot 0;parrot 1;parrot 2;parrot 3;knows 0 a 9;knows 1 b 9;knows 2 c 9;knows 3 d 9");
        for (int perch = 0; perch < 4; perch++) {
            tongue(x, perch, "a|b|c|d", 1, 1);
            tongue(x, perch, "(a|b|c|d)", 1, 1);
            tongue(x, perch, "a|b|c", perch < 3 ? 1 : 0, perch < 3 ? 1 : NONE);
            tongue(x, perch, "b|c|d|j", perch > 0 ? 1 : 0, perch > 0 ? 1 : NONE);
        }
    }

    private static void ofLongest() {
        due.promise("25 of, LONGEST: from its beginning on, at most; none");
        ParrotSpeech x = Due.harbour("cockatoo 1;parrot 1;knows 0 c 9;knows 0 d 8;knows 1 j 9");
        tongue(x, 1, "cdj", 1, 3);
        tongue(x, 1, "cd", 0, 2);
        tongue(x, 1, "c", 0, 1);
        tongue(x, 1, "c*", 0, 1);
        tongue(x, 1, "d*", 0, 0);
        tongue(x, 1, "d", 0, NONE);
        tongue(x, 1, "dj", 0, NONE);
        tongue(x, 1, "c|cd|d", 0, 2);
        tongue(x, 1, "cd|c", 0, 2);
        tongue(x, 1, "c(d|j)*", 1, 3);
        tongue(x, 1, "cdja", 0, NONE);
        tongue(x, 1, "c(dja)*", 0, 1);
        tongue(x, 1, ".j", 0, NONE);
        tongue(x, 1, "..", 0, 2);
        due.is("of(1, 2)", x.of(1, 2), OUTSIDE);
    }

    // ---- left

    private static void leftOfAll() {
        due.promise("26 left, q of ten (0 .. 10), each BIRD that KNOWS a WORD by 5 or more");
        for (int birds = 0; birds <= 8; birds++) {
            StringBuilder text = new StringBuilder("hawk 0;hawk 1;hawk 2;hawk 3;green 0;green 1;green 2;green 3");
            for (int b = 0; b < birds; b++) {
                text.append(";knows ").append(b).append(" c ").append(b % 2 == 0 ? 5 : 9);
            }
            for (int b = birds; b < 8; b++) {
                text.append(";knows ").append(b).append(" c 4");
            }
            ParrotSpeech x = Due.harbour(text.toString());
            for (int q = 0; q <= 10; q++) {
                BigInteger below = BigInteger.TEN.pow(birds);
                BigInteger above = below.subtract(BigInteger.valueOf(q).pow(birds));
                BigInteger common = above.gcd(below);
                due.is("left(2, " + q + ", 0) of " + birds, x.left(2, q, 0), above.divide(common).intValueExact());
                due.is("left(2, " + q + ", 1) of " + birds, x.left(2, q, 1), below.divide(common).intValueExact());
            }
        }
    }

    private static void leftInLowestTerms() {
        due.promise("26 left, in lowest terms");
        ParrotSpeech x = Due.harbour("hawk 0;knows 0 a 5;cover 0");
        int[] above = {1, 9, 4, 7, 3, 1, 2, 3, 1, 1, 0};
        int[] below = {1, 10, 5, 10, 5, 2, 5, 10, 5, 10, 1};
        for (int q = 0; q <= 10; q++) {
            due.is("left(0, " + q + ", 0)", x.left(0, q, 0), above[q]);
            due.is("left(0, " + q + ", 1)", x.left(0, q, 1), below[q]);
            due.is("left(1, " + q + ", 0), nobody knows it", x.left(1, q, 0), 0);
            due.is("left(1, " + q + ", 1), nobody knows it", x.left(1, q, 1), 1);
        }
    }

    // ---- seen

    private static void seenSix() {
        due.promise("SEEN, 6 at most");
        ParrotSpeech x = Due.harbour("parrot 0;knows 0 a 9");
        for (int i = 1; i <= 6; i++) {
            due.is("seen(0, 0, 0)", x.seen(0, 0, 0), i);
            due.is("count(5)", x.count(5), i);
        }
        due.is("seen(0, 0, 1)", x.seen(0, 0, 1), FULL);
        due.is("count(5)", x.count(5), 6);
        due.is("kinds(0)", x.kinds(0), 7);
        due.is("forget()", x.forget(), 6);
        due.is("forget()", x.forget(), 0);
        due.is("kinds(0)", x.kinds(0), 31);
        due.is("seen(0, 0, 1)", x.seen(0, 0, 1), 1);
        due.is("kinds(0)", x.kinds(0), 0);
        // The last of six counts as much as the first.
        x.forget();
        for (int i = 0; i < 5; i++) {
            x.seen(0, 0, 0);
        }
        x.seen(0, 1, 0);
        due.is("kinds(0), the sixth is not so", x.kinds(0), 0);
    }

    private static void seenPlaces() {
        due.promise("the i-th WORD (0 .. 9), or there was none");
        ParrotSpeech x = Due.harbour(LINE);
        x.seen(0, 9, 1);
        due.is("kinds(7)", x.kinds(7), 1 | 2 | 4 | 16);
        due.is("kinds(0)", x.kinds(0), 4);
        x.forget();
        x.seen(0, 9, NONE);
        due.is("kinds(7)", x.kinds(7), 8);
        x.forget();
        x.seen(3, 0, NONE);
        x.seen(3, 9, NONE);
        due.is("kinds(3)", x.kinds(3), 31);
        due.is("seen(3, 10, -1)", x.seen(3, 10, NONE), OUTSIDE);
        due.is("seen(4, 0, -1)", x.seen(4, 0, NONE), UNKNOWN);
        x.seen(3, 0, 0);
        due.is("kinds(3)", x.kinds(3), 0);
    }

    private static void kindsOfAll() {
        due.promise("29 kinds, by which all that is SEEN would be so");
        // Alone, with two words, one more to be got: what each kind says, place by place.
        ParrotSpeech x = Due.harbour("hawk 0;knows 0 b 4;knows 0 c 3;man a;sits 0 0");
        due.is("kinds(0), nothing seen", x.kinds(0), 31);
        x.seen(0, 0, 0);
        due.is("kinds(0), a first", x.kinds(0), 2);
        x.forget();
        x.seen(0, 0, 1);
        due.is("kinds(0), b first", x.kinds(0), 1 | 4);
        x.seen(0, 1, NONE);
        due.is("kinds(0), b alone", x.kinds(0), 1);
        x.forget();
        x.seen(0, 1, 0);
        due.is("kinds(0), a second", x.kinds(0), 4);
        x.forget();
        x.seen(0, 0, NONE);
        due.is("kinds(0), nothing said", x.kinds(0), 8 | 16);
        due.is("bird(0, 0)", x.bird(0, 0), 3);
        x.forget();
        x.seen(0, 0, 2);
        due.is("kinds(0), c first", x.kinds(0), 0);
    }

    private static void kindsFromNowOn() {
        due.promise("29 kinds, in the next EVENING");
        ParrotSpeech x = Due.harbour("parrot 0;parrot 0;knows 0 a 9;cover 1");
        x.seen(0, 0, 0);
        due.is("kinds(1), covered", x.kinds(1), 31);
        x.cover(1);
        // It would be heard saying what it hears, if it could, and a hawk would silence it all.
        due.is("kinds(1)", x.kinds(1), 1 | 2 | 4 | 16);
        x.seen(0, 1, NONE);
        due.is("kinds(1), nothing behind it", x.kinds(1), 16);
        x.perch(1, 1);
        due.is("kinds(1), elsewhere", x.kinds(1), 31);
        x.evening(1);
        due.is("kinds(1), an evening on", x.kinds(1), 31);
        due.is("count(5), an evening on", x.count(5), 2);
        x.undo();
        due.is("count(5), undone", x.count(5), 2);
    }
}
