/** Promises 11 to 19: what an evening, and what is done, comes to at its edges. */
public final class EveningEdgesTest {
    private static final int NONE = -1, NOT = -4, FULL = -5;
    private static final Due due = new Due();

    public static void main(String[] args) {
        getsNineAtMost();
        leastWordFirst();
        noWordLeft();
        getsNothing();
        menAheadOfPerches();
        hearsNineAtMost();
        hearsNotHere();
        saysKnownByOne();
        saysAsManyAsByKind();
        saysBestFirst();
        saysAsTheyKnowThen();
        silences();
        losesInThirdEvenings();
        losesOneToFour();
        losesBehindHearing();
        coveredDoNothing();
        lastEvening();
        eveningsTogether();
        taught();
        moulting();
        goingAndSitting();
        undoneEight();
        undoneOfEachSort();
        undoneAndKept();
        keptTwice();
        due.end();
    }

    private static void knownBehind(String text, int evenings, int bird, int word, int want) {
        ParrotSpeech x = Due.harbour(text);
        due.is("known(" + bird + ", " + word + ", " + evenings + ") of " + text, x.known(bird, word, evenings), want);
        if (evenings > 0) {
            x.evening(evenings);
        }
        due.is("known(" + bird + ", " + word + ", 0) of " + text + ", " + evenings + " evenings on", x.known(bird, word, 0), want);
    }

    // ---- men

    private static void getsNineAtMost() {
        due.promise("the BIRD by him KNOWS it by as much more (9 at most), he HAS it no more");
        for (int n = 0; n < 10; n++) {
            knownBehind("parrot 0;man a;sits 0 0;knows 0 a " + n, 1, 0, 0, Math.min(9, n + 3));
            knownBehind("grey 0;man a;sits 0 0;knows 0 a " + n, 1, 0, 0, Math.min(9, n + 5));
            knownBehind("cockatoo 0;man a;sits 0 0;knows 0 a " + n, 1, 0, 0, Math.min(9, n + 3));
            knownBehind("hawk 0;man a;sits 0 0;knows 0 a " + n, 1, 0, 0, n);
            knownBehind("green 0;man a;sits 0 0;knows 0 a " + n, 1, 0, 0, n);
        }
        ParrotSpeech x = Due.harbour("parrot 0;man a;sits 0 0;knows 0 a 9");
        x.evening(1);
        due.is("man(0, 0)", x.man(0, 0), 0);
        due.is("man(0, 1)", x.man(0, 1), 0);
    }

    private static void leastWordFirst() {
        due.promise("the least WORD that a MAN HAS goes over");
        ParrotSpeech x = Due.harbour("grey 0;man bcj;sits 0 0;man a");
        int[] has = {2 | 4 | 512, 4 | 512, 512, 0, 0};
        for (int n = 0; n < 5; n++) {
            due.is("man(0, 0) behind " + n, x.man(0, 0), has[n]);
            due.is("man(1, 0) behind " + n, x.man(1, 0), 1);
            x.evening(1);
        }
        due.is("bird(0, 4)", x.bird(0, 4), 2 | 4 | 512);
        ParrotSpeech y = Due.harbour("grey 0;man abcdefghij;sits 0 0");
        y.evening(9);
        due.is("man(0, 0) behind 9", y.man(0, 0), 512);
        due.is("bird(0, 4) behind 9", y.bird(0, 4), 511);
        y.evening(1);
        due.is("man(0, 0) behind 10", y.man(0, 0), 0);
        due.is("bird(0, 4) behind 10", y.bird(0, 4), 1023);
    }

    private static void noWordLeft() {
        due.promise("the least WORD that a MAN HAS, if he HAS none");
        for (int bird = 0; bird < 8; bird++) {
            ParrotSpeech x = Due.harbour("grey 0;grey 1;grey 2;grey 3;grey 0;grey 1;grey 2;grey 3;man j;sits 0 " + bird);
            for (int b = 0; b < 8; b++) {
                if (b != bird) {
                    x.cover(b);
                }
            }
            x.evening(12);
            for (int b = 0; b < 8; b++) {
                for (int w = 0; w < 10; w++) {
                    due.is("known(" + b + ", " + w + ", 0)", x.known(b, w, 0), b == bird && w == 9 ? 5 : 0);
                }
            }
            due.is("man(0, 0)", x.man(0, 0), 0);
        }
    }

    private static void getsNothing() {
        due.promise("if it is not COVERED and GETS something by KIND");
        for (String bird : new String[] {"hawk 0;man a;sits 0 0", "green 0;man a;sits 0 0", "grey 0;man a;sits 0 0;cover 0", "grey 0;man a"}) {
            ParrotSpeech x = Due.harbour(bird);
            x.evening(12);
            due.is("man(0, 0) of " + bird, x.man(0, 0), 1);
            due.is("known(0, 0, 0) of " + bird, x.known(0, 0, 0), 0);
        }
    }

    private static void menAheadOfPerches() {
        due.promise("first MEN, then PERCHES");
        ParrotSpeech x = Due.harbour("parrot 0;parrot 0;man j;sits 0 0");
        due.is("said(0, 0)", x.said(0, 0), 9);
        due.is("said(0, 1)", x.said(0, 1), 9);
        x.evening(1);
        due.is("known(0, 9, 0)", x.known(0, 9, 0), 4);
        due.is("known(1, 9, 0)", x.known(1, 9, 0), 1);
    }

    // ---- perches

    private static void hearsNineAtMost() {
        due.promise("they KNOW it by as much more as by KIND (9 at most)");
        for (int n = 0; n < 10; n++) {
            knownBehind("parrot 0;knows 0 a 9;parrot 0;knows 1 a " + n, 1, 1, 0, Math.min(9, n + 1));
            knownBehind("parrot 0;knows 0 a 9;grey 0;knows 1 a " + n, 1, 1, 0, Math.min(9, n + 1));
            knownBehind("parrot 0;knows 0 a 9;cockatoo 0;knows 1 a " + n, 1, 1, 0, Math.min(9, n + 1));
            knownBehind("parrot 0;knows 0 a 9;green 0;knows 1 a " + n, 1, 1, 0, Math.min(9, n + 2));
        }
    }

    private static void hearsNotHere() {
        due.promise("all other BIRDS there that are not COVERED HEAR");
        ParrotSpeech x = Due.harbour("parrot 1;parrot 1;parrot 0;parrot 2;parrot 1;cover 4;knows 0 a 5;green 1");
        x.evening(1);
        int[] wants = {6, 1, 0, 0, 0, 4};
        for (int b = 0; b < 6; b++) {
            due.is("known(" + b + ", 0, 0)", x.known(b, 0, 0), wants[b]);
        }
    }

    private static void saysKnownByOne() {
        due.promise("SAY WORDS that they KNOW by 1 or more");
        due.is("said(0, 0), known by 0", Due.harbour("parrot 0;knows 0 c 0").said(0, 0), NONE);
        due.is("said(0, 0), known by 1", Due.harbour("parrot 0;knows 0 c 1").said(0, 0), 2);
        due.is("said(0, 0), none known", Due.harbour("cockatoo 0").said(0, 0), NONE);
        for (int perch = 0; perch < 4; perch++) {
            ParrotSpeech x = Due.harbour("parrot " + perch + ";knows 0 j 1");
            for (int other = 0; other < 4; other++) {
                due.is("said(" + other + ", 0)", x.said(other, 0), other == perch ? 9 : NONE);
            }
        }
    }

    private static void saysAsManyAsByKind() {
        due.promise("as many of them as by KIND (fewer, if they KNOW fewer)");
        String[] kinds = {"parrot", "grey", "cockatoo", "hawk", "green"};
        int[] says = {1, 1, 2, 0, 0};
        for (int kind = 0; kind < 5; kind++) {
            for (int knows = 0; knows <= 3; knows++) {
                ParrotSpeech x = Due.harbour(kinds[kind] + " 3" + ";knows 0 b 5;knows 0 c 6;knows 0 d 7".substring(0, 12 * knows));
                int said = 0;
                while (x.said(3, said) != NONE) {
                    said++;
                }
                due.is("said by " + kinds[kind] + " of " + knows, said, Math.min(says[kind], knows));
            }
        }
    }

    private static void saysBestFirst() {
        due.promise("that best known first (of as well known ones the least)");
        ParrotSpeech x = Due.harbour("cockatoo 0;knows 0 a 5;knows 0 b 5;knows 0 c 5;parrot 1;knows 1 a 4;knows 1 j 5;grey 2;knows 2 i 9;knows 2 j 9;"
            + "cockatoo 3;knows 3 a 1;knows 3 b 2;knows 3 c 3");
        due.is("said(0, 0)", x.said(0, 0), 0);
        due.is("said(0, 1)", x.said(0, 1), 1);
        due.is("said(0, 2)", x.said(0, 2), NONE);
        due.is("said(1, 0)", x.said(1, 0), 9);
        due.is("said(2, 0)", x.said(2, 0), 8);
        due.is("said(3, 0)", x.said(3, 0), 2);
        due.is("said(3, 1)", x.said(3, 1), 1);
    }

    private static void saysAsTheyKnowThen() {
        due.promise("as they KNOW them when their turn comes");
        ParrotSpeech x = Due.harbour("parrot 0;parrot 0;knows 0 a 9;knows 1 a 4;knows 1 b 5");
        due.is("said(0, 1)", x.said(0, 1), 0);
        // The other way round it comes too late for the first one.
        ParrotSpeech y = Due.harbour("parrot 0;parrot 0;knows 1 a 9;knows 0 a 4;knows 0 b 5");
        due.is("said(0, 0)", y.said(0, 0), 1);
        due.is("said(0, 1)", y.said(0, 1), 0);
        y.evening(1);
        due.is("said(0, 0), an evening on", y.said(0, 0), 0);
        // One that knew nothing hands on what it has just heard.
        ParrotSpeech z = Due.harbour("parrot 0;parrot 0;parrot 0;knows 0 f 1");
        due.is("said(0, 2)", z.said(0, 2), 5);
        z.evening(1);
        due.is("known(0, 5, 0)", z.known(0, 5, 0), 3);
        due.is("known(1, 5, 0)", z.known(1, 5, 0), 2);
        due.is("known(2, 5, 0)", z.known(2, 5, 0), 2);
    }

    private static void silences() {
        due.promise("nothing is SAID where a BIRD stands that SILENCES by KIND and is not COVERED");
        due.is("a hawk there", Due.harbour("parrot 0;knows 0 a 9;hawk 0").said(0, 0), NONE);
        due.is("a hawk elsewhere", Due.harbour("parrot 0;knows 0 a 9;hawk 1").said(0, 0), 0);
        due.is("a covered hawk", Due.harbour("parrot 0;knows 0 a 9;hawk 0;cover 1").said(0, 0), 0);
        due.is("a covered hawk and one", Due.harbour("parrot 0;knows 0 a 9;hawk 0;cover 1;hawk 0").said(0, 0), NONE);
        due.is("a green one", Due.harbour("parrot 0;knows 0 a 9;green 0").said(0, 0), 0);
        ParrotSpeech x = Due.harbour("grey 0;hawk 0;grey 0;knows 0 a 9;man b;sits 0 2;parrot 0;knows 3 a 4");
        x.evening(3);
        due.is("known(2, 0, 0), silenced", x.known(2, 0, 0), 0);
        due.is("known(2, 1, 0), got all the same", x.known(2, 1, 0), 5);
        due.is("known(3, 0, 0), lost all the same", x.known(3, 0, 0), 3);
    }

    // ---- losing

    private static void losesInThirdEvenings() {
        due.promise("LOSE, in EVENINGS that are 2 left over by 3");
        int[] wants = {4, 4, 4, 3, 3, 3, 2, 2, 2, 1, 1, 1, 0, 0, 0, 0, 0, 0, 0};
        ParrotSpeech x = Due.harbour("parrot 0;knows 0 a 4");
        for (int n = 0; n < wants.length; n++) {
            due.is("known(0, 0, " + n + ")", Due.harbour("parrot 0;knows 0 a 4").known(0, 0, n), wants[n]);
            due.is("known(0, 0, 0) behind " + n, x.known(0, 0, 0), wants[n]);
            due.is("evening(1)", x.evening(1), n + 1);
        }
        // The evening counts, not how many were done together or since.
        ParrotSpeech y = Due.harbour("parrot 0;knows 0 a 4");
        y.evening(2);
        due.is("known(0, 0, 1)", y.known(0, 0, 1), 3);
        y.undo();
        y.evening(1);
        due.is("known(0, 0, 1)", y.known(0, 0, 1), 4);
        due.is("known(0, 0, 2)", y.known(0, 0, 2), 3);
    }

    private static void losesOneToFour() {
        due.promise("each WORD that they KNOW by 1 to 4 by so much less (0 at least)");
        String[] kinds = {"parrot", "grey", "cockatoo", "hawk", "green"};
        int[] loses = {1, 0, 1, 0, 0};
        for (int kind = 0; kind < 5; kind++) {
            for (int n = 0; n < 10; n++) {
                int want = n >= 1 && n <= 4 ? n - loses[kind] : n;
                knownBehind(kinds[kind] + " 0;knows 0 e " + n, 3, 0, 4, want);
            }
        }
        ParrotSpeech x = Due.harbour("parrot 0;knows 0 a 1;knows 0 b 4;knows 0 c 5;knows 0 j 3");
        x.evening(3);
        int[] wants = {0, 3, 5, 0, 0, 0, 0, 0, 0, 2};
        for (int w = 0; w < 10; w++) {
            due.is("known(0, " + w + ", 0)", x.known(0, w, 0), wants[w]);
        }
    }

    private static void losesBehindHearing() {
        due.promise("Then BIRDS LOSE: as they know it by then");
        for (int n = 0; n < 6; n++) {
            ParrotSpeech x = Due.harbour("parrot 0;parrot 0;knows 0 a 9;cover 0;cover 1;knows 1 a " + n);
            x.evening(2);
            x.cover(0);
            x.cover(1);
            x.evening(1);
            int heard = n + 1;
            due.is("known(1, 0, 0) of " + n, x.known(1, 0, 0), heard <= 4 ? heard - 1 : heard);
        }
    }

    private static void coveredDoNothing() {
        due.promise("A BIRD may be COVERED");
        ParrotSpeech x = Due.harbour("cockatoo 0;parrot 0;grey 0;cover 0;knows 0 a 4;knows 1 b 4;man c;sits 0 0");
        String first = "";
        for (int w = 0; w < 10; w++) {
            first += x.known(0, w, 0);
        }
        x.evening(12);
        String last = "";
        for (int w = 0; w < 10; w++) {
            last += x.known(0, w, 0);
        }
        due.that("it knows what it did: " + last, last.equals(first));
        due.is("man(0, 0)", x.man(0, 0), 4);
        due.is("known(2, 0, 0)", x.known(2, 0, 0), 0);
        due.is("cover(0)", x.cover(0), 0);
        x.evening(1);
        due.is("man(0, 0), no more covered", x.man(0, 0), 0);
        due.that("known(2, 0, 0), no more covered", x.known(2, 0, 0) > 0);
        // It may be taught, moulting, moved and sat by all the same.
        ParrotSpeech y = Due.harbour("parrot 0;cover 0;man a");
        due.is("teach(0, 0)", y.teach(0, 0), 3);
        due.is("moult(0)", y.moult(0), 1);
        due.is("perch(0, 1)", y.perch(0, 1), 0);
        due.is("sit(0, 0)", y.sit(0, 0), NONE);
    }

    // ---- time

    private static void lastEvening() {
        due.promise("11 evening, the last ones");
        ParrotSpeech x = Due.harbour("parrot 0;knows 0 a 4;cover 0");
        for (int i = 1; i <= 83; i++) {
            due.is("evening(12)", x.evening(12), 12 * i);
        }
        due.is("evening(2)", x.evening(2), 998);
        due.is("cover(0)", x.cover(0), 0);
        due.is("evening(2)", x.evening(2), FULL);
        due.is("known(0, 0, 0)", x.known(0, 0, 0), 4);
        due.is("evening(1)", x.evening(1), 999);
        // 998 is 2 left over by 3, as is 1001.
        due.is("known(0, 0, 0)", x.known(0, 0, 0), 3);
        due.is("evening(1)", x.evening(1), FULL);
        due.is("known(0, 0, 2)", x.known(0, 0, 2), 3);
        due.is("known(0, 0, 3)", x.known(0, 0, 3), 2);
        due.is("known(0, 0, 60)", x.known(0, 0, 60), 0);
        due.is("undo()", x.undo(), 7);
        due.is("count(2)", x.count(2), 998);
    }

    private static void eveningsTogether() {
        due.promise("11 evening, 1 .. 12, together they are undone");
        String text = "parrot 0;grey 0;cockatoo 0;man abcj;man dj;sits 0 0;sits 1 1;knows 2 f 6;knows 1 a 2";
        for (int n = 1; n <= 12; n++) {
            ParrotSpeech x = Due.harbour(text);
            String before = Due.state(x);
            due.is("evening(" + n + ")", x.evening(n), n);
            ParrotSpeech y = Due.harbour(text);
            for (int i = 1; i <= n; i++) {
                due.is("evening(1)", y.evening(1), i);
            }
            for (int b = 0; b < 3; b++) {
                for (int w = 0; w < 10; w++) {
                    due.is("known(" + b + ", " + w + ", 0) behind " + n, x.known(b, w, 0), y.known(b, w, 0));
                }
            }
            due.is("count(4) behind " + n, x.count(4), Math.max(0, 4 - n) + Math.max(0, 2 - n));
            due.is("count(7) behind " + n, x.count(7), 1);
            due.is("undo() behind " + n, x.undo(), 0);
            due.that("all " + n + " are undone", Due.state(x).equals(before));
        }
    }

    // ---- what is done

    private static void taught() {
        due.promise("TAUGHT: a BIRD KNOWS a WORD by 3 more (9 at most)");
        for (int n = 0; n < 10; n++) {
            ParrotSpeech x = Due.harbour("green 0;knows 0 j " + n + ";grey 0");
            due.is("teach(0, 9)", x.teach(0, 9), Math.min(9, n + 3));
            due.is("known(0, 9, 0)", x.known(0, 9, 0), Math.min(9, n + 3));
            due.is("known(0, 8, 0)", x.known(0, 8, 0), 0);
            due.is("known(1, 9, 0)", x.known(1, 9, 0), 0);
            due.is("count(7)", x.count(7), 1);
            due.is("undo()", x.undo(), 0);
            due.is("known(0, 9, 0)", x.known(0, 9, 0), n);
        }
    }

    private static void moulting() {
        due.promise("MOULTING: it KNOWS each WORD by half of what it did (cut)");
        for (int n = 0; n < 10; n++) {
            ParrotSpeech x = Due.harbour("green 0;grey 0;knows 0 j " + n + ";knows 0 a 1;knows 0 b 9;knows 1 c 9");
            due.is("moult(0)", x.moult(0), n / 2 + 4);
            due.is("known(0, 9, 0)", x.known(0, 9, 0), n / 2);
            due.is("known(0, 0, 0)", x.known(0, 0, 0), 0);
            due.is("known(0, 1, 0)", x.known(0, 1, 0), 4);
            due.is("known(1, 2, 0)", x.known(1, 2, 0), 9);
        }
        ParrotSpeech y = Due.harbour("green 0");
        due.is("moult(0) of nothing", y.moult(0), 0);
        due.is("count(7)", y.count(7), 1);
        ParrotSpeech all = Due.harbour("hawk 0;knows 0 a 9;knows 0 b 9;knows 0 c 9;knows 0 d 9;knows 0 e 9;knows 0 f 9;knows 0 g 9;knows 0 h 9;knows 0 i 9;knows 0 j 9");
        due.is("moult(0) of all", all.moult(0), 40);
    }

    private static void goingAndSitting() {
        due.promise("14 perch, 16 sit, another one, or none");
        for (int from = 0; from < 4; from++) {
            for (int to = 0; to < 4; to++) {
                ParrotSpeech x = Due.harbour("parrot " + from);
                due.is("perch(0, " + to + ")", x.perch(0, to), from == to ? NOT : from);
                due.is("bird(0, 1)", x.bird(0, 1), to);
                due.is("count(7)", x.count(7), from == to ? 0 : 1);
            }
        }
        ParrotSpeech x = Due.harbour("parrot 0;grey 0;man a;man b");
        due.is("sit(0, -1), none by him", x.sit(0, NONE), NOT);
        due.is("sit(0, 1)", x.sit(0, 1), NONE);
        due.is("sit(0, 1), again", x.sit(0, 1), NOT);
        due.is("sit(1, 1), by another man", x.sit(1, 1), NONE);
        due.is("man(0, 1)", x.man(0, 1), NONE);
        due.is("man(1, 1)", x.man(1, 1), 1);
        due.is("bird(1, 3)", x.bird(1, 3), 1);
        due.is("sit(1, 0)", x.sit(1, 0), 1);
        due.is("bird(1, 3)", x.bird(1, 3), NONE);
        due.is("sit(1, -1)", x.sit(1, NONE), 0);
        due.is("bird(0, 3)", x.bird(0, 3), NONE);
        due.is("sit(1, -1), again", x.sit(1, NONE), NOT);
        due.is("count(7)", x.count(7), 4);
    }

    // ---- undone, kept

    private static void undoneEight() {
        due.promise("17 undo, the last 8 can be");
        for (int done = 0; done <= 20; done++) {
            ParrotSpeech x = Due.harbour("parrot 0");
            for (int i = 0; i < done; i++) {
                x.evening(1);
                due.is("count(7)", x.count(7), Math.min(8, i + 1));
            }
            int can = Math.min(8, done);
            for (int i = 1; i <= can; i++) {
                due.is("undo() of " + done, x.undo(), can - i);
                due.is("count(2)", x.count(2), done - i);
                due.is("count(7)", x.count(7), can - i);
            }
            due.is("undo() of none", x.undo(), NOT);
            due.is("count(2)", x.count(2), done - can);
            x.evening(1);
            due.is("count(7), one more done", x.count(7), 1);
            due.is("undo(), one more done", x.undo(), 0);
            due.is("count(2)", x.count(2), done - can);
        }
    }

    private static void undoneOfEachSort() {
        due.promise("17 undo, evening(), teach(), moult(), perch(), cover(), sit()");
        String[] names = {"evening", "teach", "moult", "perch", "cover", "sit"};
        int[][] args = {{4}, {1, 7}, {1}, {1, 3}, {0}, {0, 0}};
        for (int i = 0; i < names.length; i++) {
            ParrotSpeech x = Due.harbour("parrot 0;cockatoo 0;man ab;sits 0 1;knows 1 d 7;knows 0 e 3");
            x.teach(0, 0);
            String before = Due.state(x);
            Edges.call(x, names[i], args[i]);
            due.that(names[i] + "() changes something", !Due.state(x).equals(before));
            due.is("count(7) behind " + names[i] + "()", x.count(7), 2);
            due.is("undo() of " + names[i] + "()", x.undo(), 1);
            due.that(names[i] + "() is undone", Due.state(x).equals(before));
        }
        // What is told, seen, kept or put on reels is not undone.
        ParrotSpeech x = Due.harbour("parrot 0");
        x.evening(1);
        Due.tongue(x, "a");
        x.write('b');
        x.seen(0, 0, 0);
        x.keep(0);
        x.reel(0, 0, 1);
        due.is("count(7)", x.count(7), 1);
        due.is("undo()", x.undo(), 0);
        due.is("undo()", x.undo(), NOT);
        due.is("count(5)", x.count(5), 1);
        due.is("count(6)", x.count(6), 1);
        due.is("count(8)", x.count(8), 1);
        due.is("back(0)", x.back(0), 1);
        due.is("of(0, 0)", x.of(0, 0), 0);
    }

    private static void undoneAndKept() {
        due.promise("18 keep, 19 back, nothing can be undone");
        ParrotSpeech x = Due.harbour("parrot 0");
        x.evening(5);
        x.teach(0, 1);
        due.is("keep(0)", x.keep(0), 5);
        due.is("count(7), kept", x.count(7), 2);
        due.is("undo()", x.undo(), 1);
        due.is("undo()", x.undo(), 0);
        due.is("back(1), not kept", x.back(1), NOT);
        due.is("back(0)", x.back(0), 5);
        due.is("known(0, 1, 0)", x.known(0, 1, 0), 3);
        due.is("count(7), back", x.count(7), 0);
        due.is("undo(), back", x.undo(), NOT);
        x.moult(0);
        due.is("undo()", x.undo(), 0);
        due.is("known(0, 1, 0)", x.known(0, 1, 0), 3);
        x.evening(12);
        due.is("back(1), not kept", x.back(1), NOT);
        due.is("count(7), back refused", x.count(7), 1);
        due.is("count(2), back refused", x.count(2), 17);
    }

    private static void keptTwice() {
        due.promise("18 keep (k 0, 1)");
        ParrotSpeech x = new ParrotSpeech();
        due.is("keep(0), no birds", x.keep(0), 0);
        x.evening(3);
        due.is("keep(1)", x.keep(1), 3);
        due.is("back(0)", x.back(0), 0);
        due.is("back(1)", x.back(1), 3);
        x.evening(4);
        due.is("keep(1), anew", x.keep(1), 7);
        due.is("back(0)", x.back(0), 0);
        due.is("back(1)", x.back(1), 7);
        Due.write(x, "parrot 9");
        due.is("harbour(), refused", x.harbour(), NOT);
        due.is("back(0), still kept", x.back(0), 0);
        x.erase();
        Due.write(x, "parrot 2;parrot 3;man a;knows 0 a 8");
        x.harbour();
        due.is("back(0), since the last harbour", x.back(0), NOT);
        due.is("back(1), since the last harbour", x.back(1), NOT);
        due.is("keep(1)", x.keep(1), 0);
        due.is("back(0), since the last harbour", x.back(0), NOT);
        String kept = Due.state(x);
        x.perch(0, 0);
        x.cover(1);
        x.sit(0, 1);
        x.moult(0);
        x.evening(2);
        due.is("back(1)", x.back(1), 0);
        due.that("all birds, men and the evening are as kept", Due.state(x).equals(kept));
        // They alone: the text, what is seen, reels stay as they are.
        x.write('x');
        x.seen(0, 0, 0);
        x.reel(2, 2, 2);
        due.is("back(1)", x.back(1), 0);
        due.is("count(5)", x.count(5), 1);
        due.is("count(6)", x.count(6), 1);
        due.is("count(8)", x.count(8), 1);
    }
}
