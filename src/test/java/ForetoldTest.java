/** Promises 20 to 29: what is foretold, and what was seen. */
public final class ForetoldTest {
    private static final int NONE = -1, UNKNOWN = -2, OUTSIDE = -3, NOT = -4, FULL = -5;
    private static final Due due = new Due();

    public static void main(String[] args) {
        said();
        when();
        keeps();
        match();
        matchOfSeveral();
        clean();
        of();
        left();
        seen();
        kinds();
        due.end();
    }

    private static void said() {
        due.promise("20 said");
        ParrotSpeech x = Due.harbour("cockatoo 0;parrot 0;man j;knows 0 c 5;knows 0 a 2;sits 0 1;hawk 2;parrot 2;knows 3 a 9");
        due.is("said(0, 0)", x.said(0, 0), 2);
        due.is("said(0, 1)", x.said(0, 1), 0);
        // The parrot has got j by 3 ahead of it, and heard c and a by 1.
        due.is("said(0, 2)", x.said(0, 2), 9);
        due.is("said(0, 3)", x.said(0, 3), NONE);
        due.is("said(0, 15)", x.said(0, 15), NONE);
        due.is("said(1, 0)", x.said(1, 0), NONE);
        due.is("said(2, 0)", x.said(2, 0), NONE);
        due.is("said(4, 99)", x.said(4, 99), UNKNOWN);
        due.is("said(-1, 0)", x.said(-1, 0), UNKNOWN);
        due.is("said(0, 16)", x.said(0, 16), OUTSIDE);
        due.is("said(0, -1)", x.said(0, -1), OUTSIDE);
        due.is("man(0, 0)", x.man(0, 0), 512);
        due.is("count(2)", x.count(2), 0);
        ParrotSpeech y = Due.harbour("cockatoo 3;cockatoo 3;cockatoo 3;cockatoo 3;cockatoo 3;cockatoo 3;cockatoo 3;"
            + "cockatoo 3;knows 0 a 9;knows 0 b 8");
        for (int i = 0; i < 16; i++) {
            due.is("said(3, " + i + ")", y.said(3, i), i % 2);
        }
    }

    private static void when() {
        due.promise("21 when");
        ParrotSpeech x = Due.harbour("parrot 0;grey 0;knows 0 b 4;man acf;sits 0 1");
        due.is("when(0, 1, 4)", x.when(0, 1, 4), 0);
        due.is("when(0, 0, 1)", x.when(0, 0, 1), 1);
        due.is("when(0, 0, 4)", x.when(0, 0, 4), 5);
        due.is("when(0, 0, 5)", x.when(0, 0, 5), 6);
        due.is("when(1, 5, 5)", x.when(1, 5, 5), 3);
        due.is("when(1, 9, 1)", x.when(1, 9, 1), NONE);
        due.is("when(2, 0, 1)", x.when(2, 0, 1), UNKNOWN);
        due.is("when(0, 10, 0)", x.when(0, 10, 0), UNKNOWN);
        due.is("when(0, 0, 0)", x.when(0, 0, 0), OUTSIDE);
        due.is("when(0, 0, 10)", x.when(0, 0, 10), OUTSIDE);
        due.is("count(2)", x.count(2), 0);
    }

    private static void keeps() {
        due.promise("22 keeps");
        ParrotSpeech x = Due.harbour("parrot 0;grey 1;hawk 2;man abc;man ad;sits 0 1;knows 0 d 7");
        due.is("keeps(0, 1, 1)", x.keeps(0, 1, 1), 1);
        due.is("keeps(0, 1, 3)", x.keeps(0, 1, 3), 3);
        due.is("keeps(1, 1, 2)", x.keeps(1, 1, 2), 2);
        due.is("keeps(1, 0, 1)", x.keeps(1, 0, 1), 1);
        due.is("keeps(0, 0, 20)", x.keeps(0, 0, 20), 0);
        due.is("keeps(0, 2, 20)", x.keeps(0, 2, 20), 0);
        due.is("man(0, 1)", x.man(0, 1), 1);
        due.is("keeps(2, 0, 0)", x.keeps(2, 0, 0), UNKNOWN);
        due.is("keeps(0, 3, 0)", x.keeps(0, 3, 0), UNKNOWN);
        due.is("keeps(0, -1, 1)", x.keeps(0, -1, 1), UNKNOWN);
        due.is("keeps(0, 0, 0)", x.keeps(0, 0, 0), OUTSIDE);
        due.is("keeps(0, 0, 21)", x.keeps(0, 0, 21), OUTSIDE);
    }

    private static void match() {
        due.promise("23 match");
        ParrotSpeech x = Due.harbour("grey 0;grey 1;parrot 2;man ab;man abcd;man j;knows 2 j 9");
        due.is("match(4, -1)", x.match(4, NONE), 2 + 4 + 1);
        due.is("match(4, 0)", x.match(4, 0), 0);
        due.is("match(4, 1)", x.match(4, 1), 1);
        due.is("match(4, 2)", x.match(4, 2), 2);
        due.is("match(1, -1)", x.match(1, NONE), 3);
        due.is("match(0, 3)", x.match(0, 3), UNKNOWN);
        due.is("match(1, -2)", x.match(1, -2), UNKNOWN);
        due.is("match(0, -1)", x.match(0, NONE), OUTSIDE);
        due.is("match(21, 0)", x.match(21, 0), OUTSIDE);
        due.is("man(0, 1)", x.man(0, 1), NONE);
        due.is("match(1, -1) of none", new ParrotSpeech().match(1, NONE), 0);
    }

    private static void matchOfSeveral() {
        due.promise("23 match, the first of several");
        ParrotSpeech x = Due.harbour("hawk 0;hawk 0;man a;man b;man c");
        due.is("match(1, -1)", x.match(1, NONE), 0);
        due.is("match(1, 0)", x.match(1, 0), 0);
        due.is("match(1, 1)", x.match(1, 1), 1);
        due.is("match(1, 2)", x.match(1, 2), NONE);
        ParrotSpeech y = Due.harbour("grey 0;man a;man bc");
        due.is("match(2, -1)", y.match(2, NONE), 2);
        due.is("match(2, 0)", y.match(2, 0), NONE);
        due.is("match(2, 1)", y.match(2, 1), 0);
        due.is("match(1, 0)", y.match(1, 0), 0);
        due.is("match(1, 1)", y.match(1, 1), NONE);
    }

    private static void clean() {
        due.promise("24 clean");
        ParrotSpeech x = Due.harbour("parrot 0;parrot 0;parrot 0;grey 1;knows 1 a 9;knows 2 a 9;knows 3 a 9");
        // Two a's an evening: 2, 4, 6; only one, some lost in the third: 1, 2, 2, 3, 4, 5.
        due.is("clean(0, 0, 2)", x.clean(0, 0, 2), 0);
        due.is("clean(0, 0, 3)", x.clean(0, 0, 3), 2);
        due.is("clean(0, 0, 20)", x.clean(0, 0, 20), 6);
        due.is("clean(3, 0, 1)", x.clean(3, 0, 1), NONE);
        due.is("clean(3, 1, 20)", x.clean(3, 1, 20), 0);
        due.is("count(3)", x.count(3), 0);
        x.cover(1);
        due.is("clean(0, 0, 20)", x.clean(0, 0, 20), 4);
        x.cover(0);
        due.is("clean(0, 0, 20)", x.clean(0, 0, 20), 0);
        due.is("clean(4, 0, 0)", x.clean(4, 0, 0), UNKNOWN);
        due.is("clean(0, 10, 0)", x.clean(0, 10, 0), UNKNOWN);
        due.is("clean(0, 0, 0)", x.clean(0, 0, 0), OUTSIDE);
        due.is("clean(0, 0, 21)", x.clean(0, 0, 21), OUTSIDE);
        // Its man gives it the word, whoever is covered.
        ParrotSpeech y = Due.harbour("grey 0;parrot 0;man a;sits 0 0");
        due.is("clean(0, 0, 1)", y.clean(0, 0, 1), NONE);
        // Covering the hawk would only let the others speak.
        ParrotSpeech z = Due.harbour("parrot 0;hawk 0;parrot 0;knows 2 a 9");
        due.is("clean(0, 0, 20)", z.clean(0, 0, 20), 0);
    }

    private static void of() {
        due.promise("25 of");
        // On perch 0: a b (cockatoo), c (parrot); on perch 1 nothing.
        ParrotSpeech x = Due.harbour("cockatoo 0;parrot 0;knows 0 a 9;knows 0 b 8;knows 1 c 9");
        due.is("of(0, 0)", x.of(0, 0), NOT);
        due.is("of(0, 2)", x.of(0, 2), OUTSIDE);
        due.is("of(4, 2)", x.of(4, 2), UNKNOWN);
        String[] tongues = {
            "abc", "ab", "a", "b", "...", ".*", "a*", "b*", "(a|b)*", "(ab|c)*", "(a|ab)(c|bc)", "a(b*c*)*",
            "(a*)*", "(a*|b*)*c", "((((((a*b*)*)*)*)*)*)*c", "c|b|ab*c", "abcd*", "abcd", "(ab)*(ab)*c", "a|abcd|ab",
            "....", "(.|..)*", "(..)*", "j*|j*",
        };
        int[] whole = {1, 0, 0, 0, 1, 1, 0, 0, 0, 1, 1, 1, 0, 1, 1, 1, 1, 0, 1, 0, 0, 1, 0, 0};
        int[] longest = {3, 2, 1, NONE, 3, 3, 1, 0, 2, 3, 3, 3, 1, 3, 3, 3, 3, NONE, 3, 2, NONE, 3, 2, 0};
        due.is("the tables' lengths", tongues.length, whole.length);
        for (int i = 0; i < tongues.length; i++) {
            Due.tongue(x, tongues[i]);
            due.is("of(0, 0) of " + tongues[i], x.of(0, 0), whole[i]);
            due.is("of(0, 1) of " + tongues[i], x.of(0, 1), longest[i]);
        }
        // On perch 0: a a a b. Of several ways to begin, the shorter is the one that goes on.
        ParrotSpeech y = Due.harbour("parrot 0;parrot 0;parrot 0;parrot 0;knows 0 a 9;knows 1 a 9;knows 2 a 9;knows 3 b 9");
        Due.tongue(y, "(a|aa)aab");
        due.is("of(0, 0)", y.of(0, 0), 1);
        Due.tongue(y, "(a|aa)ab");
        due.is("of(0, 0)", y.of(0, 0), 1);
        Due.tongue(y, "(a|aaa)(a|ab)");
        due.is("of(0, 0)", y.of(0, 0), 0);
        due.is("of(0, 1)", y.of(0, 1), 2);
        Due.tongue(x, "a*");
        due.is("of(1, 0)", x.of(1, 0), 1);
        due.is("of(1, 1)", x.of(1, 1), 0);
        Due.tongue(x, "a");
        due.is("of(1, 0)", x.of(1, 0), 0);
        due.is("of(1, 1)", x.of(1, 1), NONE);
        due.is("of(-1, 0)", x.of(-1, 0), UNKNOWN);
        due.is("of(0, -1)", x.of(0, -1), OUTSIDE);
    }

    private static void left() {
        due.promise("26 left");
        ParrotSpeech x = Due.harbour("parrot 0;parrot 0;hawk 0;knows 0 a 5;knows 1 a 9;knows 2 a 4;knows 2 b 6;cover 2");
        int[][] wants = {
            {0, 5, 3, 4}, {0, 3, 91, 100}, {0, 0, 1, 1}, {0, 10, 0, 1}, {0, 8, 9, 25},
            {1, 4, 3, 5}, {1, 10, 0, 1}, {2, 5, 0, 1}, {2, 0, 0, 1}, {2, 10, 0, 1},
        };
        for (int[] w : wants) {
            due.is("left(" + w[0] + ", " + w[1] + ", 0)", x.left(w[0], w[1], 0), w[2]);
            due.is("left(" + w[0] + ", " + w[1] + ", 1)", x.left(w[0], w[1], 1), w[3]);
        }
        due.is("left(10, 11, 2)", x.left(10, 11, 2), UNKNOWN);
        due.is("left(-1, 0, 0)", x.left(-1, 0, 0), UNKNOWN);
        due.is("left(0, 11, 0)", x.left(0, 11, 0), OUTSIDE);
        due.is("left(0, -1, 0)", x.left(0, -1, 0), OUTSIDE);
        due.is("left(0, 0, 2)", x.left(0, 0, 2), OUTSIDE);
        due.is("left(0, 0, -1)", x.left(0, 0, -1), OUTSIDE);
        ParrotSpeech y = Due.harbour("hawk 0;hawk 0;hawk 0;hawk 0;hawk 0;hawk 0;hawk 0;hawk 0;knows 0 a 9;knows 1 a 9;"
            + "knows 2 a 9;knows 3 a 9;knows 4 a 9;knows 5 a 9;knows 6 a 9;knows 7 a 9");
        due.is("left(0, 3, 0)", y.left(0, 3, 0), 100000000 - 6561);
        due.is("left(0, 3, 1)", y.left(0, 3, 1), 100000000);
    }

    private static void seen() {
        due.promise("27 seen, 28 forget");
        ParrotSpeech x = new ParrotSpeech();
        due.is("forget()", x.forget(), 0);
        due.is("seen(4, 10, 0)", x.seen(4, 10, 0), UNKNOWN);
        due.is("seen(-1, 0, 0)", x.seen(-1, 0, 0), UNKNOWN);
        due.is("seen(0, 0, 10)", x.seen(0, 0, 10), UNKNOWN);
        due.is("seen(0, 0, -2)", x.seen(0, 0, -2), UNKNOWN);
        due.is("seen(0, 10, 0)", x.seen(0, 10, 0), OUTSIDE);
        due.is("seen(0, -1, 0)", x.seen(0, -1, 0), OUTSIDE);
        for (int i = 1; i <= 6; i++) {
            due.is("seen(3, 9, -1)", x.seen(3, 9, NONE), i);
        }
        due.is("seen(3, 9, -1)", x.seen(3, 9, NONE), FULL);
        due.is("seen(3, 10, -1)", x.seen(3, 10, NONE), OUTSIDE);
        due.is("count(5)", x.count(5), 6);
        due.is("evening(1)", x.evening(1), 1);
        due.is("count(5)", x.count(5), 6);
        due.is("forget()", x.forget(), 6);
        due.is("count(5)", x.count(5), 0);
    }

    private static void kinds() {
        due.promise("29 kinds");
        ParrotSpeech x = Due.harbour("parrot 0;parrot 0;knows 0 a 9;knows 0 b 8;knows 1 c 1");
        due.is("kinds(0)", x.kinds(0), 31);
        x.seen(0, 0, 0);
        due.is("kinds(0)", x.kinds(0), 7);
        x.seen(0, 1, 1);
        due.is("kinds(0)", x.kinds(0), 4);
        due.is("kinds(1)", x.kinds(1), 0);
        x.forget();
        x.seen(0, 0, NONE);
        due.is("kinds(0)", x.kinds(0), 8);
        x.forget();
        x.seen(0, 0, 2);
        due.is("kinds(0)", x.kinds(0), 16);
        x.forget();
        // What a grey gets tells it from a parrot.
        ParrotSpeech y = Due.harbour("parrot 0;knows 0 b 4;man a;sits 0 0");
        y.seen(0, 0, 0);
        due.is("kinds(0)", y.kinds(0), 2);
        due.is("bird(0, 0)", y.bird(0, 0), 0);
        due.is("kinds(1)", y.kinds(1), UNKNOWN);
        due.is("kinds(-1)", y.kinds(-1), UNKNOWN);
        y.evening(1);
        due.is("kinds(0), an evening on", y.kinds(0), 0);
    }
}
