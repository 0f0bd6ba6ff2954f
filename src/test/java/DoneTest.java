/** Promises 11 to 19: what is done. */
public final class DoneTest {
    private static final int NONE = -1, UNKNOWN = -2, OUTSIDE = -3, NOT = -4, FULL = -5;
    private static final Due due = new Due();

    public static void main(String[] args) {
        evening();
        eveningOfMen();
        eveningOfPerches();
        eveningOfLosses();
        teach();
        moult();
        perch();
        cover();
        sit();
        undo();
        keep();
        due.end();
    }

    private static void evening() {
        due.promise("11 evening");
        ParrotSpeech x = new ParrotSpeech();
        due.is("evening(0)", x.evening(0), OUTSIDE);
        due.is("evening(-1)", x.evening(-1), OUTSIDE);
        due.is("evening(13)", x.evening(13), OUTSIDE);
        due.is("evening(1)", x.evening(1), 1);
        for (int i = 1; i <= 83; i++) {
            due.is("evening(12)", x.evening(12), 1 + 12 * i);
        }
        due.is("evening(3)", x.evening(3), FULL);
        due.is("evening(13)", x.evening(13), OUTSIDE);
        due.is("evening(2)", x.evening(2), 999);
        due.is("evening(1)", x.evening(1), FULL);
        due.is("count(2)", x.count(2), 999);
        due.is("undo()", x.undo(), 7);
        due.is("count(2)", x.count(2), 997);
    }

    private static void eveningOfMen() {
        due.promise("11 evening, men");
        ParrotSpeech x = Due.harbour("parrot 0;grey 1;hawk 2;green 3;man bc;man ad;man e;man f;"
            + "knows 0 b 8;sits 0 0;sits 1 1;sits 2 2;sits 3 3");
        x.evening(1);
        due.is("man(0, 0)", x.man(0, 0), 4);
        due.is("man(1, 0)", x.man(1, 0), 8);
        due.is("man(2, 0)", x.man(2, 0), 16);
        due.is("man(3, 0)", x.man(3, 0), 32);
        due.is("known(0, 1, 0)", x.known(0, 1, 0), 9);
        due.is("known(1, 0, 0)", x.known(1, 0, 0), 5);
        due.is("known(2, 4, 0)", x.known(2, 4, 0), 0);
        due.is("known(3, 5, 0)", x.known(3, 5, 0), 0);
        x.cover(0);
        x.evening(1);
        due.is("man(0, 0)", x.man(0, 0), 4);
        due.is("man(1, 0)", x.man(1, 0), 0);
        x.cover(0);
        x.evening(2);
        due.is("man(0, 0)", x.man(0, 0), 0);
        due.is("known(0, 2, 0)", x.known(0, 2, 0), 2);
    }

    private static void eveningOfPerches() {
        due.promise("11 evening, perches");
        ParrotSpeech x = Due.harbour("cockatoo 0;parrot 0;green 0;hawk 1;parrot 1;parrot 1;"
            + "knows 0 c 2;knows 0 d 6;knows 0 a 2;knows 4 j 9");
        x.evening(1);
        // The cockatoo says d, then a; the parrot hears both and says a, the lesser of two known alike.
        due.is("known(1, 3, 0)", x.known(1, 3, 0), 1);
        due.is("known(1, 0, 0)", x.known(1, 0, 0), 1);
        due.is("known(1, 2, 0)", x.known(1, 2, 0), 0);
        due.is("known(0, 0, 0)", x.known(0, 0, 0), 3);
        due.is("known(2, 0, 0)", x.known(2, 0, 0), 4);
        due.is("known(2, 3, 0)", x.known(2, 3, 0), 2);
        due.is("known(5, 9, 0)", x.known(5, 9, 0), 0);
        x.cover(3);
        x.cover(2);
        x.evening(1);
        due.is("known(5, 9, 0)", x.known(5, 9, 0), 1);
        due.is("known(3, 9, 0)", x.known(3, 9, 0), 0);
        due.is("known(2, 3, 0)", x.known(2, 3, 0), 2);
    }

    private static void eveningOfLosses() {
        due.promise("11 evening, losses");
        ParrotSpeech x = Due.harbour("parrot 0;grey 1;cockatoo 2;hawk 3;green 3;"
            + "knows 0 a 4;knows 0 b 5;knows 0 c 1;knows 1 a 4;knows 2 a 4;knows 3 a 4;knows 4 a 4");
        x.evening(2);
        due.is("known(0, 0, 0)", x.known(0, 0, 0), 4);
        x.evening(1);
        due.is("known(0, 0, 0)", x.known(0, 0, 0), 3);
        due.is("known(0, 1, 0)", x.known(0, 1, 0), 5);
        due.is("known(0, 2, 0)", x.known(0, 2, 0), 0);
        due.is("known(1, 0, 0)", x.known(1, 0, 0), 4);
        due.is("known(2, 0, 0)", x.known(2, 0, 0), 3);
        due.is("known(3, 0, 0)", x.known(3, 0, 0), 4);
        due.is("known(4, 0, 0)", x.known(4, 0, 0), 4);
        x.cover(0);
        x.evening(3);
        due.is("known(0, 0, 0)", x.known(0, 0, 0), 3);
        due.is("known(2, 0, 0)", x.known(2, 0, 0), 2);
    }

    private static void teach() {
        due.promise("12 teach");
        ParrotSpeech x = Due.harbour("hawk 0;parrot 0;cover 1");
        due.is("teach(0, 9)", x.teach(0, 9), 3);
        due.is("teach(0, 9)", x.teach(0, 9), 6);
        due.is("teach(0, 9)", x.teach(0, 9), 9);
        due.is("teach(0, 9)", x.teach(0, 9), 9);
        due.is("count(7)", x.count(7), 4);
        due.is("teach(1, 0)", x.teach(1, 0), 3);
        due.is("teach(2, 0)", x.teach(2, 0), UNKNOWN);
        due.is("teach(-1, 0)", x.teach(-1, 0), UNKNOWN);
        due.is("teach(0, 10)", x.teach(0, 10), UNKNOWN);
        due.is("teach(0, -1)", x.teach(0, -1), UNKNOWN);
        due.is("count(7)", x.count(7), 5);
    }

    private static void moult() {
        due.promise("13 moult");
        ParrotSpeech x = Due.harbour("parrot 0;knows 0 a 9;knows 0 b 5;knows 0 c 1;knows 0 d 2");
        due.is("moult(0)", x.moult(0), 4 + 2 + 0 + 1);
        due.is("known(0, 0, 0)", x.known(0, 0, 0), 4);
        due.is("known(0, 2, 0)", x.known(0, 2, 0), 0);
        due.is("moult(0)", x.moult(0), 3);
        due.is("undo()", x.undo(), 1);
        due.is("known(0, 0, 0)", x.known(0, 0, 0), 4);
        due.is("moult(1)", x.moult(1), UNKNOWN);
        due.is("moult(-1)", x.moult(-1), UNKNOWN);
    }

    private static void perch() {
        due.promise("14 perch");
        ParrotSpeech x = Due.harbour("parrot 2");
        due.is("perch(0, 2)", x.perch(0, 2), NOT);
        due.is("count(7)", x.count(7), 0);
        due.is("perch(0, 3)", x.perch(0, 3), 2);
        due.is("bird(0, 1)", x.bird(0, 1), 3);
        due.is("perch(0, 0)", x.perch(0, 0), 3);
        due.is("perch(0, 4)", x.perch(0, 4), UNKNOWN);
        due.is("perch(0, -1)", x.perch(0, -1), UNKNOWN);
        due.is("perch(1, 0)", x.perch(1, 0), UNKNOWN);
        due.is("undo()", x.undo(), 1);
        due.is("bird(0, 1)", x.bird(0, 1), 3);
    }

    private static void cover() {
        due.promise("15 cover");
        ParrotSpeech x = Due.harbour("parrot 2;grey 1;cover 1");
        due.is("cover(0)", x.cover(0), 1);
        due.is("count(3)", x.count(3), 3);
        due.is("cover(1)", x.cover(1), 0);
        due.is("bird(1, 2)", x.bird(1, 2), 0);
        due.is("undo()", x.undo(), 1);
        due.is("bird(1, 2)", x.bird(1, 2), 1);
        due.is("cover(2)", x.cover(2), UNKNOWN);
        due.is("cover(-1)", x.cover(-1), UNKNOWN);
    }

    private static void sit() {
        due.promise("16 sit");
        ParrotSpeech x = Due.harbour("parrot 2;grey 1;man a;man b;sits 0 0");
        due.is("sit(0, 0)", x.sit(0, 0), NOT);
        due.is("sit(1, -1)", x.sit(1, NONE), NOT);
        due.is("count(7)", x.count(7), 0);
        due.is("sit(1, 0)", x.sit(1, 0), NONE);
        due.is("man(0, 1)", x.man(0, 1), NONE);
        due.is("bird(0, 3)", x.bird(0, 3), 1);
        due.is("sit(1, 1)", x.sit(1, 1), 0);
        due.is("bird(0, 3)", x.bird(0, 3), NONE);
        due.is("sit(1, -1)", x.sit(1, NONE), 1);
        due.is("undo()", x.undo(), 2);
        due.is("undo()", x.undo(), 1);
        due.is("undo()", x.undo(), 0);
        due.is("man(0, 1)", x.man(0, 1), 0);
        due.is("sit(2, 0)", x.sit(2, 0), UNKNOWN);
        due.is("sit(-1, 0)", x.sit(-1, 0), UNKNOWN);
        due.is("sit(0, 2)", x.sit(0, 2), UNKNOWN);
        due.is("sit(0, -2)", x.sit(0, -2), UNKNOWN);
    }

    private static void undo() {
        due.promise("17 undo");
        ParrotSpeech x = Due.harbour("parrot 0;parrot 0;man ab;knows 0 a 4;sits 0 1");
        due.is("undo()", x.undo(), NOT);
        String[] states = new String[11];
        for (int i = 0; i <= 10; i++) {
            states[i] = known(x);
            int step = i % 6;
            if (step == 0) {
                x.evening(3);
            } else if (step == 1) {
                x.teach(0, 5);
            } else if (step == 2) {
                x.cover(1);
            } else if (step == 3) {
                x.perch(0, 1 - x.bird(0, 1));
            } else if (step == 4) {
                x.sit(0, 1 - x.man(0, 1));
            } else {
                x.moult(1);
            }
            due.is("count(7)", x.count(7), Math.min(i + 1, 8));
        }
        for (int i = 10; i > 2; i--) {
            due.is("undo()", x.undo(), i - 3);
            due.that("undone to step " + i, known(x).equals(states[i]));
        }
        due.is("undo()", x.undo(), NOT);
        due.that("nothing changed", known(x).equals(states[3]));
    }

    private static String known(ParrotSpeech x) {
        StringBuilder all = new StringBuilder();
        all.append(x.count(2)).append(' ').append(x.man(0, 0)).append(' ').append(x.man(0, 1)).append(' ');
        for (int b = 0; b < x.count(0); b++) {
            all.append(x.bird(b, 1)).append(x.bird(b, 2)).append(x.bird(b, 3)).append(' ');
            for (int w = 0; w < 10; w++) {
                all.append(x.known(b, w, 0));
            }
        }
        return all.toString();
    }

    private static void keep() {
        due.promise("18 keep, 19 back");
        ParrotSpeech x = Due.harbour("parrot 0;parrot 0;man ab;knows 0 a 4;sits 0 1");
        due.is("keep(2)", x.keep(2), UNKNOWN);
        due.is("keep(-1)", x.keep(-1), UNKNOWN);
        due.is("back(2)", x.back(2), UNKNOWN);
        due.is("back(-1)", x.back(-1), UNKNOWN);
        due.is("back(0)", x.back(0), NOT);
        x.evening(2);
        due.is("keep(1)", x.keep(1), 2);
        String kept = known(x);
        due.is("count(7)", x.count(7), 1);
        x.evening(5);
        x.perch(1, 3);
        x.sit(0, NONE);
        due.is("keep(0)", x.keep(0), 7);
        due.is("back(1)", x.back(1), 2);
        due.that("as it was kept", known(x).equals(kept));
        due.is("count(7)", x.count(7), 0);
        due.is("undo()", x.undo(), NOT);
        x.teach(0, 9);
        due.is("back(1)", x.back(1), 2);
        due.that("as it was kept, again", known(x).equals(kept));
        due.is("back(0)", x.back(0), 7);
        due.is("bird(1, 1)", x.bird(1, 1), 3);
        Due.write(x, "hawk 0");
        x.harbour();
        due.is("back(0)", x.back(0), NOT);
        due.is("back(1)", x.back(1), NOT);
    }
}
