/** Promises 1 to 10: what is told. */
public final class ToldTest {
    private static final int NONE = -1, UNKNOWN = -2, OUTSIDE = -3, NOT = -4, FULL = -5;
    private static final Due due = new Due();

    public static void main(String[] args) {
        newObject();
        write();
        erase();
        harbourFaults();
        harbourFaultsOverEarlierTexts();
        tongueFaults();
        harbour();
        harbourIsAsTold();
        tongue();
        bird();
        man();
        known();
        as();
        due.end();
    }

    private static void newObject() {
        due.promise("1 a new object");
        ParrotSpeech x = new ParrotSpeech();
        for (int what = 0; what < 10; what++) {
            due.is("count(" + what + ")", x.count(what), 0);
        }
        due.is("of(0, 0)", x.of(0, 0), NOT);
        for (int reel = 0; reel < 3; reel++) {
            due.is("drop(" + reel + ")", x.drop(reel), -11);
        }
        due.is("undo()", x.undo(), NOT);
        due.is("back(0)", x.back(0), NOT);
        due.is("bird(0, 0)", x.bird(0, 0), UNKNOWN);
        due.is("man(0, 0)", x.man(0, 0), UNKNOWN);
    }

    private static void write() {
        due.promise("2 write");
        ParrotSpeech x = new ParrotSpeech();
        due.is("write(-1)", x.write(-1), OUTSIDE);
        due.is("write(256)", x.write(256), OUTSIDE);
        due.is("write(min)", x.write(Integer.MIN_VALUE), OUTSIDE);
        due.is("write(0)", x.write(0), 1);
        due.is("write(255)", x.write(255), 2);
        for (int i = 3; i <= 200; i++) {
            due.is("write(97)", x.write(97), i);
        }
        due.is("write(97)", x.write(97), FULL);
        due.is("write(300)", x.write(300), OUTSIDE);
        due.is("count(8)", x.count(8), 200);
    }

    private static void erase() {
        due.promise("3 erase");
        ParrotSpeech x = new ParrotSpeech();
        due.is("erase()", x.erase(), 0);
        Due.write(x, "hawk 0");
        due.is("erase()", x.erase(), 6);
        due.is("count(8)", x.count(8), 0);
        due.is("write(98)", x.write(98), 1);
        due.is("fault(0)", x.fault(0), 0);
    }

    private static void faultOf(int what, String text, int want) {
        faultOf(new ParrotSpeech(), what, text, want);
    }

    private static void faultOf(ParrotSpeech x, int what, String text, int want) {
        Due.write(x, text);
        due.is("fault(" + what + ") of \"" + text + "\"", x.fault(what), want);
        due.is("count(8) of \"" + text + "\"", x.count(8), text.length());
        x.erase();
    }

    private static void harbourFaults() {
        due.promise("4 fault of a harbour");
        ParrotSpeech x = new ParrotSpeech();
        due.is("fault(2)", x.fault(2), OUTSIDE);
        due.is("fault(-1)", x.fault(-1), OUTSIDE);
        String[] texts = {
            "", "   ", "harbour", " harbour ", "harbour;", "harbour; ", ";harbour", "harbour;;harbour",
            "harbour harbour", "harbours", "Harbour", "harbour.", "harbour;\tharbour", "1",
            "parrot 0", "parrot0", "parrot  3  ", "parrot 4", "parrot 00", "parrot a", "parrot", "parrot ",
            "parrot -1", "parrot 0 1", "grey 3;cockatoo 2;hawk 1;green 0", "greyish 0", "parrotgrey 0",
            "man abcdefghij", "man j", "man k", "man abcdefghijk", "man a b", "man aB", "man", "man ;",
            "man a1", "man ca", "man abb", "mana", "knows", "knows 0", "hawk 0;knows 0",
            "hawk 0;knows 1 a 1", "hawk 0;knows 0 j 9", "hawk 0;knows 0 k 9", "hawk 0;knows 0 1 9",
            "hawk 0;knows 0 a", "hawk 0;knows 0 a b", "hawk 0;knows0a9", "hawk 0;knows 0 a 09",
            "sits 0 0", "man a;sits 0 0", "hawk 0;sits 0 0", "man a;hawk 0;sits 0 0",
            "man a;hawk 0;sits 0 1", "man a;hawk 0;sits 1 0", "man a;hawk 0;sits 0",
            "man a;hawk 0;sits 0 0;sits 0 0", "man a;hawk 0;hawk 1;sits 0 0;sits 0 1;sits 0 0",
            "man a;man b;hawk 0;sits 0 0;harbour;sits 1 0",
            "cover 0", "hawk 0;cover 0", "hawk 0;cover 0;cover 0", "hawk 0;cover 1", "hawk 0;cover",
            "hawk 0;harbour;cover 0",
            "hawk 0;hawk 0;hawk 0;hawk 0;hawk 0;hawk 0;hawk 0;hawk 0;knows 7 a 1",
            "hawk 0;hawk 0;hawk 0;hawk 0;hawk 0;hawk 0;hawk 0;hawk 0;hawk 9",
            "hawk 0;hawk 0;hawk 0;hawk 0;hawk 0;hawk 0;hawk 0;hawk 0;harbour;green 1",
            "man a;man b;man c;man d", "man a;man b;man c;man d;man e", "man a;man b;man c;man d;man",
            "man a;man b;man c;man d;harbour;man e",
        };
        int[] faults = {
            0, 3, NONE, NONE, 8, 9, 0, 8,
            8, 0, 0, 7, 8, 0,
            NONE, NONE, NONE, 7, 7, 7, 6, 7,
            7, 9, NONE, 0, 0,
            NONE, NONE, 4, 4, 6, 5, 3, 4,
            5, 4, 4, 0, 5, 6, 14,
            13, NONE, 15, 15,
            16, 17, NONE, 17,
            5, 13, 12, NONE,
            20, 18, 19,
            NONE, NONE,
            41,
            6, NONE, NONE, 13, 12,
            21,
            NONE,
            56,
            NONE,
            NONE, 24, 24,
            NONE,
        };
        due.is("the tables' lengths", texts.length, faults.length);
        for (int i = 0; i < texts.length; i++) {
            faultOf(0, texts[i], faults[i]);
        }
        StringBuilder twenty = new StringBuilder("harbour");
        for (int i = 1; i < 20; i++) {
            twenty.append(";harbour");
        }
        faultOf(0, twenty.toString(), NONE);
        faultOf(0, twenty + ";harbour", 159);
        faultOf(0, twenty + ";", 159);
    }

    private static void harbourFaultsOverEarlierTexts() {
        due.promise("4 fault of a harbour, earlier texts");
        ParrotSpeech x = Due.harbour("man a;man b;parrot 0;sits 0 0");
        faultOf(x, 0, "knows 0 a 9", NONE);
        faultOf(x, 0, "knows 1 a 9", 6);
        faultOf(x, 0, "sits 1 0", 7);
        faultOf(x, 0, "sits 0 0", NONE);
        due.is("sit(0, -1)", x.sit(0, NONE), 0);
        faultOf(x, 0, "sits 1 0", 7);
        faultOf(x, 0, "harbour;sits 1 0", 13);
        faultOf(x, 0, "man c;man d;man e", 12);
    }

    private static void tongueFaults() {
        due.promise("4 fault of a tongue");
        String[] texts = {
            "", "  ", "a", "j", "k", "abk", "ab1", "A", "a b", " a ", ".", "..", "a*", "a**", "a * ", "a* *",
            "*", "|a", "a|", "a||b", "a|b", "a|b|c*d", "()", "(a)", "(a)*", "(a)**", "(a*)*", "(a", "(a))", ")",
            "(a|)", "(|a)", "(*a)", "a(b", "((((((a))))))", "(((((((a)))))))", "((((((a))))))(a)", "((((((a))))((a)))))",
            "((((((", "(((((((", "a;b", "a\tb",
        };
        int[] faults = {
            0, 2, NONE, NONE, 0, 2, 2, 0, NONE, NONE, NONE, NONE, NONE, 2, NONE, 3,
            0, 0, 2, 2, NONE, NONE, 1, NONE, NONE, 4, NONE, 2, 3, 0,
            3, 1, 1, 3, NONE, 6, NONE, 18,
            6, 6, 1, 1,
        };
        due.is("the tables' lengths", texts.length, faults.length);
        for (int i = 0; i < texts.length; i++) {
            faultOf(1, texts[i], faults[i]);
        }
    }

    private static void harbour() {
        due.promise("5 harbour");
        ParrotSpeech x = new ParrotSpeech();
        due.is("harbour()", x.harbour(), NOT);
        Due.write(x, "parrot 1;grey 2;cockatoo 3;hawk 0;green 1;man acj;knows 0 b 7;knows 0 b 4;sits 0 2;cover 3");
        due.is("harbour()", x.harbour(), 10);
        due.is("count(8)", x.count(8), 0);
        due.is("count(0)", x.count(0), 5);
        due.is("count(1)", x.count(1), 1);
        int[] perches = {1, 2, 3, 0, 1};
        for (int b = 0; b < 5; b++) {
            due.is("bird(" + b + ", 0)", x.bird(b, 0), b);
            due.is("bird(" + b + ", 1)", x.bird(b, 1), perches[b]);
        }
        due.is("known(0, 1, 0)", x.known(0, 1, 0), 4);
        due.is("man(0, 0)", x.man(0, 0), 1 | 4 | 512);
        due.is("man(0, 1)", x.man(0, 1), 2);
        due.is("count(3)", x.count(3), 8);
        Due.write(x, "parrot 1;parrot 9");
        String before = Due.state(x);
        due.is("harbour()", x.harbour(), NOT);
        due.that("a fault changes nothing", Due.state(x).equals(before));
    }

    private static void harbourIsAsTold() {
        due.promise("5 harbour, as told");
        ParrotSpeech x = Due.harbour("parrot 0;parrot 0;man abc;knows 0 a 2;sits 0 0;cover 1");
        Due.tongue(x, "a*");
        x.reel(1, 2, 5);
        x.evening(4);
        x.teach(1, 3);
        x.perch(0, 2);
        x.cover(1);
        x.keep(0);
        x.seen(0, 0, 0);
        Due.write(x, "hawk 3;knows 1 j 8");
        due.is("harbour()", x.harbour(), 2);
        due.is("count(0)", x.count(0), 3);
        due.is("known(0, 0, 0)", x.known(0, 0, 0), 2);
        due.is("known(1, 3, 0)", x.known(1, 3, 0), 0);
        due.is("known(1, 9, 0)", x.known(1, 9, 0), 8);
        due.is("bird(0, 1)", x.bird(0, 1), 0);
        due.is("bird(1, 2)", x.bird(1, 2), 1);
        due.is("man(0, 0)", x.man(0, 0), 7);
        due.is("man(0, 1)", x.man(0, 1), 0);
        due.is("count(2)", x.count(2), 0);
        due.is("count(5)", x.count(5), 0);
        due.is("count(7)", x.count(7), 0);
        due.is("count(6)", x.count(6), 1);
        due.is("back(0)", x.back(0), NOT);
        due.is("undo()", x.undo(), NOT);
        due.that("the tongue stays", x.of(1, 0) == 1);
        Due.write(x, "harbour;green 2");
        due.is("harbour()", x.harbour(), 2);
        due.is("count(0)", x.count(0), 1);
        due.is("count(1)", x.count(1), 0);
        due.is("count(3)", x.count(3), 0);
        due.is("bird(0, 0)", x.bird(0, 0), 4);
        due.is("known(0, 0, 0)", x.known(0, 0, 0), 0);
        due.is("count(6)", x.count(6), 1);
    }

    private static void tongue() {
        due.promise("6 tongue");
        ParrotSpeech x = new ParrotSpeech();
        due.is("tongue()", x.tongue(), NOT);
        Due.write(x, "a (b.|c)* .*");
        due.is("tongue()", x.tongue(), 5);
        due.is("count(8)", x.count(8), 0);
        due.is("of(0, 0)", x.of(0, 0), 0);
        Due.write(x, "a|");
        due.is("tongue()", x.tongue(), NOT);
        due.is("count(8)", x.count(8), 2);
        due.is("of(0, 0)", x.of(0, 0), 0);
        x.erase();
        Due.write(x, ".*");
        due.is("tongue()", x.tongue(), 1);
        due.is("of(0, 0)", x.of(0, 0), 1);
    }

    private static void bird() {
        due.promise("7 bird");
        ParrotSpeech x = Due.harbour("grey 3;cockatoo 1;man a;man b;sits 1 0;cover 1;knows 0 a 5;knows 0 c 4;knows 0 j 9");
        int[] first = {1, 3, 0, 1, 1 | 512};
        int[] second = {2, 1, 1, NONE, 0};
        for (int what = 0; what < 5; what++) {
            due.is("bird(0, " + what + ")", x.bird(0, what), first[what]);
            due.is("bird(1, " + what + ")", x.bird(1, what), second[what]);
        }
        due.is("bird(2, 0)", x.bird(2, 0), UNKNOWN);
        due.is("bird(-1, 9)", x.bird(-1, 9), UNKNOWN);
        due.is("bird(0, 5)", x.bird(0, 5), OUTSIDE);
        due.is("bird(0, -1)", x.bird(0, -1), OUTSIDE);
    }

    private static void man() {
        due.promise("8 man");
        ParrotSpeech x = Due.harbour("grey 3;man ab;man j;sits 1 0");
        due.is("man(0, 0)", x.man(0, 0), 3);
        due.is("man(0, 1)", x.man(0, 1), NONE);
        due.is("man(1, 0)", x.man(1, 0), 512);
        due.is("man(1, 1)", x.man(1, 1), 0);
        due.is("man(2, 7)", x.man(2, 7), UNKNOWN);
        due.is("man(-1, 0)", x.man(-1, 0), UNKNOWN);
        due.is("man(0, 2)", x.man(0, 2), OUTSIDE);
        due.is("man(0, -1)", x.man(0, -1), OUTSIDE);
    }

    private static void known() {
        due.promise("9 known");
        ParrotSpeech x = Due.harbour("parrot 0;grey 0;knows 0 b 4;man acf;sits 0 1");
        // The parrot says b until it knows a as well, behind 4 evenings.
        int[] ofParrotA = {0, 1, 2, 2, 3, 4, 5};
        int[] ofParrotB = {4, 4, 4, 3, 3, 3, 2};
        int[] ofGreyB = {0, 1, 2, 3, 4, 4, 4};
        int[] ofGreyF = {0, 0, 0, 5, 5, 5, 5};
        for (int n = 0; n <= 6; n++) {
            due.is("known(0, 0, " + n + ")", x.known(0, 0, n), ofParrotA[n]);
            due.is("known(0, 1, " + n + ")", x.known(0, 1, n), ofParrotB[n]);
            due.is("known(1, 1, " + n + ")", x.known(1, 1, n), ofGreyB[n]);
            due.is("known(1, 5, " + n + ")", x.known(1, 5, n), ofGreyF[n]);
        }
        due.is("count(2)", x.count(2), 0);
        due.is("known(2, 0, 0)", x.known(2, 0, 0), UNKNOWN);
        due.is("known(-1, 0, 0)", x.known(-1, 0, 0), UNKNOWN);
        due.is("known(0, 10, 99)", x.known(0, 10, 99), UNKNOWN);
        due.is("known(0, -1, 0)", x.known(0, -1, 0), UNKNOWN);
        due.is("known(0, 0, -1)", x.known(0, 0, -1), OUTSIDE);
        due.is("known(0, 0, 61)", x.known(0, 0, 61), OUTSIDE);
        due.is("known(1, 0, 60)", x.known(1, 0, 60), 9);
    }

    private static void as() {
        due.promise("10 as");
        ParrotSpeech x = Due.harbour("parrot 0;grey 0;cockatoo 0;hawk 0;green 0");
        int[][] want = {
            {3, 3, NOT, NOT, NOT, NOT},
            {5, 5, 5, NOT, NOT, NOT},
            {3, 3, NOT, 3, NOT, NOT},
            {0, NOT, NOT, NOT, 0, NOT},
            {0, NOT, NOT, NOT, 0, 0},
        };
        for (int b = 0; b < 5; b++) {
            for (int kind = 0; kind < 6; kind++) {
                due.is("as(" + b + ", " + kind + ")", x.as(b, kind), want[b][kind]);
            }
        }
        due.is("as(5, 9)", x.as(5, 9), UNKNOWN);
        due.is("as(-1, 0)", x.as(-1, 0), UNKNOWN);
        due.is("as(0, 6)", x.as(0, 6), OUTSIDE);
        due.is("as(0, -1)", x.as(0, -1), OUTSIDE);
    }
}
