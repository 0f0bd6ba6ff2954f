/** Promises 2 to 6: what a text may hold at most and at least, and where the fault is beyond it. */
public final class TextEdgesTest {
    private static final int NONE = -1, NOT = -4, FULL = -5;
    private static final Due due = new Due();
    private static final String EIGHT = "hawk 0;grey 0;hawk 0;grey 0;hawk 0;grey 0;hawk 0;grey 0";
    private static final String FOUR = "man a;man b;man c;man d";
    /** Signs that are no small letter, no digit, no blank and no ; among them those next to one. */
    private static final int[] STRANGE = {0, 9, 10, 13, 31, 33, 46, 47, 58, 60, 64, 65, 90, 91, 95, 96, 123, 127, 128, 160, 225, 255};

    public static void main(String[] args) {
        lettersOfAText();
        clausesOfAText();
        wordsOfClauses();
        perches();
        ninthBird();
        fifthMan();
        wordsOfAMan();
        knows();
        sits();
        covers();
        tokens();
        endTooSoon();
        firstFault();
        inTheirOrder();
        earlierTexts();
        behindThem();
        faultsOfTongues();
        depthOfTongues();
        lettersOfATongue();
        tongueStays();
        due.end();
    }

    // ---- what is asked of a text

    private static void stands(String text, int clauses) {
        stands("harbour", text, clauses);
    }

    private static void stands(String earlier, String text, int clauses) {
        ParrotSpeech x = Due.harbour(earlier);
        Due.write(x, text);
        due.is("fault(0) of \"" + text + "\"", x.fault(0), NONE);
        due.is("harbour() of \"" + text + "\"", x.harbour(), clauses);
        due.is("count(8) behind \"" + text + "\"", x.count(8), 0);
    }

    private static void faulty(String text, int place) {
        faulty("harbour", text, place);
    }

    private static void faulty(String earlier, String text, int place) {
        ParrotSpeech x = Due.harbour(earlier);
        Due.write(x, text);
        due.is("count(8) of \"" + text + "\"", x.count(8), text.length());
        due.is("fault(0) of \"" + text + "\"", x.fault(0), place);
        String before = Due.state(x);
        due.is("harbour() of \"" + text + "\"", x.harbour(), NOT);
        due.that("harbour() of \"" + text + "\" changes nothing", Due.state(x).equals(before));
    }

    private static void tongueStands(String text, int words) {
        ParrotSpeech x = new ParrotSpeech();
        Due.write(x, text);
        due.is("fault(1) of \"" + text + "\"", x.fault(1), NONE);
        due.is("tongue() of \"" + text + "\"", x.tongue(), words);
        due.is("count(8) behind \"" + text + "\"", x.count(8), 0);
        due.that("there is a tongue behind \"" + text + "\"", x.of(0, 0) != NOT);
    }

    private static void tongueFaulty(String text, int place) {
        ParrotSpeech x = new ParrotSpeech();
        Due.write(x, text);
        due.is("fault(1) of \"" + text + "\"", x.fault(1), place);
        due.is("tongue() of \"" + text + "\"", x.tongue(), NOT);
        due.is("fault(1) of \"" + text + "\", again", x.fault(1), place);
        due.is("count(8) of \"" + text + "\"", x.count(8), text.length());
        due.is("of(0, 0) behind \"" + text + "\"", x.of(0, 0), NOT);
    }

    // ---- a harbour

    private static void lettersOfAText() {
        due.promise("THE TEXT is a row of letters, 200 at most");
        String text = "hawk 0;man a";
        String padded = text + " ".repeat(199 - text.length()) + ";";
        faulty(padded, 200);
        stands(padded.substring(0, 199), 2);
        stands("hawk" + " ".repeat(195) + "0", 1);
        stands(" ".repeat(193) + "harbour", 1);
        faulty(" ".repeat(200), 200);
        faulty(" ".repeat(199) + "x", 199);
        ParrotSpeech x = new ParrotSpeech();
        Due.write(x, " ".repeat(193) + "harbourx");
        due.is("count(8), the last one refused", x.count(8), 200);
        due.is("fault(0), the last one refused", x.fault(0), NONE);
        due.is("write(120)", x.write('x'), FULL);
        due.is("harbour()", x.harbour(), 1);
        due.is("write(120), the text done", x.write('x'), 1);
        due.is("erase()", x.erase(), 1);
        due.is("erase()", x.erase(), 0);
    }

    private static void clausesOfAText() {
        due.promise("CLAUSES with ; between, 20 at most");
        String twenty = "harbour" + ";harbour".repeat(19);
        stands("harbour", 1);
        stands("harbour" + ";harbour".repeat(18), 19);
        stands(twenty, 20);
        stands(twenty + " ", 20);
        faulty(twenty + ";harbour", 159);
        faulty(twenty + ";", 159);
        faulty(twenty + " ; harbour", 160);
        faulty(twenty + ";nothing", 159);
        faulty(twenty + " harbour", 160);
        stands(FOUR + ";" + EIGHT + ";cover 0;cover 1;cover 2;cover 3;cover 4;cover 5;cover 6;cover 7", 20);
        // Each text by itself has 20.
        stands(EIGHT + ";cover 0;cover 1;cover 2;cover 3;cover 4;cover 5;cover 6;cover 7;man a;man b;man c;man d",
            "cover 0" + ";cover 7".repeat(19), 20);
        faulty(";", 0);
        faulty("harbour;", 8);
        faulty("harbour;;harbour", 8);
        faulty(";harbour", 0);
    }

    private static void wordsOfClauses() {
        due.promise("each is one of");
        String earlier = "hawk 0;man a";
        String[] words = {"harbour", "parrot", "grey", "cockatoo", "hawk", "green", "man", "knows", "sits", "cover"};
        String[] rests = {"", " 0", " 0", " 0", " 0", " 0", " a", " 0 a 1", " 0 0", " 0"};
        for (int i = 0; i < words.length; i++) {
            String word = words[i];
            stands(earlier, word + rests[i], 1);
            faulty(earlier, word + "s" + rests[i], 0);
            faulty(earlier, word.substring(0, word.length() - 1) + rests[i], 0);
            faulty(earlier, word.substring(1) + rests[i], 0);
            faulty(earlier, word.substring(0, 1).toUpperCase() + word.substring(1) + rests[i], 0);
            faulty(earlier, word.substring(0, 2) + " " + word.substring(2) + rests[i], 0);
            faulty(earlier, word + "a" + rests[i], 0);
            faulty(earlier, word + "z" + rests[i], 0);
            for (int at = 0; at < word.length(); at++) {
                faulty(earlier, word.substring(0, at) + "z" + word.substring(at + 1) + rests[i], 0);
            }
            faulty(earlier, word + rests[i] + " 0", word.length() + rests[i].length() + 1);
            faulty(earlier, word + rests[i] + " " + word + rests[i], word.length() + rests[i].length() + 1);
        }
        faulty("0", 0);
        faulty("z", 0);
        faulty("a", 0);
    }

    private static void perches() {
        due.promise("on PERCH P");
        String[] kinds = {"parrot", "grey", "cockatoo", "hawk", "green"};
        for (int kind = 0; kind < 5; kind++) {
            int at = kinds[kind].length() + 1;
            for (int perch = 0; perch < 4; perch++) {
                ParrotSpeech x = Due.harbour(kinds[kind] + " " + perch);
                due.is("bird(0, 0)", x.bird(0, 0), kind);
                due.is("bird(0, 1)", x.bird(0, 1), perch);
            }
            for (int perch = 4; perch < 10; perch++) {
                faulty(kinds[kind] + " " + perch, at);
            }
            for (String perch : new String[] {"00", "01", "03", "10", "30", "000", "a", "x", "-1", ";", "*"}) {
                faulty(kinds[kind] + " " + perch, at);
            }
        }
    }

    private static void ninthBird() {
        due.promise("a ninth cannot stand there (at its word)");
        stands(EIGHT, 8);
        for (String kind : new String[] {"parrot", "grey", "cockatoo", "hawk", "green"}) {
            faulty(EIGHT + ";" + kind + " 0", 56);
            faulty(EIGHT + ";" + kind, 56);
            faulty(EIGHT + ";" + kind + " 9", 56);
            faulty(EIGHT, kind + " 0", 0);
            faulty(EIGHT, "man a;" + kind + " 0", 6);
            stands(EIGHT, "harbour;" + kind + " 0", 2);
        }
        faulty(EIGHT.substring(7), "hawk 1;hawk 2", 7);
        stands(EIGHT + ";harbour;" + EIGHT, 17);
        stands(EIGHT, "harbour;" + EIGHT, 9);
        faulty(EIGHT, "harbour;" + EIGHT + ";green 0", 64);
        due.is("count(0)", Due.harbour(EIGHT).count(0), 8);
        due.is("count(0) behind harbour", Due.harbour(EIGHT + ";harbour").count(0), 0);
    }

    private static void fifthMan() {
        due.promise("man: one MAN more, a fifth cannot");
        stands(FOUR, 4);
        faulty(FOUR + ";man e", 24);
        faulty(FOUR + ";man", 24);
        faulty(FOUR + ";man 0", 24);
        faulty(FOUR, "man e", 0);
        faulty("man a;man b;man c", "man d;man e", 6);
        stands(FOUR + ";harbour;" + FOUR, 9);
        stands(FOUR, "harbour;man j", 2);
        faulty(FOUR, "harbour;" + FOUR + ";man a", 32);
        due.is("count(1)", Due.harbour(FOUR).count(1), 4);
        due.is("count(1) behind harbour", Due.harbour(FOUR + ";harbour").count(1), 0);
    }

    private static void wordsOfAMan() {
        due.promise("WS one to ten letters a .. j in a row, rising, none twice");
        for (int w = 0; w < 10; w++) {
            due.is("man(0, 0)", Due.harbour("man " + (char) ('a' + w)).man(0, 0), 1 << w);
        }
        due.is("man(0, 0)", Due.harbour("man abcdefghij").man(0, 0), 1023);
        due.is("man(0, 0)", Due.harbour("man aj").man(0, 0), 513);
        for (String words : new String[] {"k", "z", "ak", "abcdefghijk", "kj", "aa", "jj", "abb", "ba", "ja", "acb", "abcdefghji",
                "abcdefghijj", "abcdefghija", "A", "0", "1", ";", ".", "`"}) {
            faulty("man " + words, 4);
        }
        faulty("man aB", 5);
        faulty("man a0", 5);
        faulty("man a b", 6);
        faulty("man ab ab", 7);
        faulty("mana", 0);
        faulty("man", 3);
    }

    private static void knows() {
        due.promise("knows: BIRD B, told ahead, KNOWS W by N, 0 to 9");
        for (int n = 0; n < 10; n++) {
            due.is("known(0, 0, 0)", Due.harbour("hawk 0;knows 0 a " + n).known(0, 0, 0), n);
            due.is("known(0, " + n + ", 0)", Due.harbour("hawk 0;knows 0 " + (char) ('a' + n) + " 9").known(0, n, 0), 9);
        }
        for (String number : new String[] {"10", "00", "09", "99", "a", "x", "-1", ";"}) {
            faulty("hawk 0;knows 0 a " + number, 17);
        }
        for (String word : new String[] {"k", "z", "ab", "aa", "ja", "A", "0", ";", "."}) {
            faulty("hawk 0;knows 0 " + word + " 1", 15);
        }
        for (String bird : new String[] {"1", "7", "8", "9", "00", "01", "10", "a", "-1"}) {
            faulty("hawk 0;knows " + bird + " a 1", 13);
        }
        faulty("knows 0 a 1;hawk 0", 6);
        faulty("hawk 0;harbour;knows 0 a 1", 21);
        faulty("hawk 0", "harbour;knows 0 a 1", 14);
        stands("hawk 0", "knows 0 a 1", 1);
        faulty("hawk 0", "knows 1 a 1", 6);
        stands(EIGHT + ";knows 7 a 1", 9);
        faulty(EIGHT + ";knows 8 a 1", 62);
        due.is("told again", Due.harbour("hawk 0;knows 0 a 9;knows 0 a 0").known(0, 0, 0), 0);
    }

    private static void sits() {
        due.promise("sits: MAN M, told ahead, has BIRD B by him, told ahead, by no other MAN");
        stands("man a;hawk 0;sits 0 0", 3);
        faulty("sits 0 0;man a;hawk 0", 5);
        faulty("man a;sits 0 0;hawk 0", 13);
        faulty("hawk 0;sits 0 0;man a", 12);
        for (String number : new String[] {"1", "3", "4", "9", "00", "10", "a", "-1"}) {
            faulty("man a;hawk 0;sits " + number + " 0", 18);
            faulty("man a;hawk 0;sits 0 " + number, 20);
        }
        String two = "man a;man b;hawk 0;hawk 0;";
        faulty(two + "sits 0 0;sits 1 0", 42);
        stands(two + "sits 0 0;sits 1 1", 6);
        stands(two + "sits 0 0;sits 0 0", 6);
        stands(two + "sits 0 0;sits 0 1;sits 1 0", 7);
        faulty(two + "sits 0 0", "sits 1 0", 7);
        stands(two + "sits 0 0", "sits 0 0", 1);
        stands(two + "sits 0 0", "sits 0 1;sits 1 0", 2);
        faulty("man a;hawk 0", "harbour;man a;sits 0 0", 21);
        stands(FOUR + ";" + EIGHT + ";sits 3 7", 13);
        faulty(FOUR + ";" + EIGHT + ";sits 4 7", 85);
        faulty(FOUR + ";" + EIGHT + ";sits 3 8", 87);
        ParrotSpeech x = Due.harbour(two + "sits 0 0;sits 0 1;sits 1 0");
        due.is("man(0, 1)", x.man(0, 1), 1);
        due.is("man(1, 1)", x.man(1, 1), 0);
        due.is("bird(0, 3)", x.bird(0, 3), 1);
    }

    private static void covers() {
        due.promise("cover: BIRD B is COVERED");
        faulty("cover 0", 6);
        faulty("cover 0;hawk 0", 6);
        for (String bird : new String[] {"1", "9", "00", "10", "a", "-1", ";"}) {
            faulty("hawk 0;cover " + bird, 13);
        }
        stands(EIGHT + ";cover 7", 9);
        faulty(EIGHT + ";cover 8", 62);
        due.is("count(3)", Due.harbour(EIGHT + ";cover 7;cover 0;cover 7").count(3), 129);
        due.is("count(3)", Due.harbour(EIGHT + ";cover 7;harbour;" + EIGHT).count(3), 0);
    }

    private static void tokens() {
        due.promise("TOKEN (a row of small letters, a row of digits, any other letter)");
        for (int sign : STRANGE) {
            char s = (char) sign;
            faulty(s + "hawk 0", 0);
            faulty("ha" + s + "wk 0", 0);
            faulty("hawk" + s + "0", 4);
            faulty("hawk " + s, 5);
            faulty("hawk 0" + s, 6);
            faulty("hawk 0" + s + s, 6);
            faulty("hawk 0 " + s + " ;harbour", 7);
            faulty("hawk 0;" + s, 7);
            faulty("man a" + s, 5);
        }
        stands("  hawk   0  ;  man   ab  ;  knows  0  a  1  ", 3);
        stands("hawk0;man a;knows0a1;sits0 0;cover0", 5);
        faulty("hawk0 0", 6);
        faulty("hawk0a", 5);
        faulty("hawk 0;knows0ab1", 13);
        faulty("hawk 0;man a;sits00", 17);
    }

    private static void endTooSoon() {
        due.promise("or at the end, if it comes too soon");
        String[] texts = {"", " ", "parrot", "parrot ", "grey", "cockatoo", "hawk", "green  ", "man", "man   ", "knows", "knows 0",
            "knows 0 ", "knows 0 a", "knows 0 a  ", "sits", "sits ", "sits 0", "sits 0  ", "cover", "cover ", "harbour;", "harbour; ",
            "harbour ; ", "hawk 1;man b;"};
        for (String text : texts) {
            faulty("hawk 0;man a", text, text.length());
        }
    }

    private static void firstFault() {
        due.promise("A FAULT is at the first TOKEN that cannot stand there");
        faulty("hawk 9;hawk 8", 5);
        faulty("hawk 0;hawk 8;man z", 12);
        faulty("hawk 0 0;hawk 9", 7);
        faulty("knows 0 k 10", 6);
        faulty("hawk 0;knows 0 k 10", 15);
        faulty("hawk 0;knows 1 k 10", 13);
        faulty("sits 9 9", 5);
        faulty(FOUR + ";man;hawk 9", 24);
        ParrotSpeech x = new ParrotSpeech();
        Due.write(x, "harbour");
        due.is("fault(0) of \"harbour\"", x.fault(0), NONE);
        due.is("fault(1) of \"harbour\"", x.fault(1), 2);
        x.erase();
        Due.write(x, "ab");
        due.is("fault(0) of \"ab\"", x.fault(0), 0);
        due.is("fault(1) of \"ab\"", x.fault(1), NONE);
    }

    private static void inTheirOrder() {
        due.promise("CLAUSES are done in their order");
        ParrotSpeech x = Due.harbour("hawk 3;cover 0;knows 0 a 7;man a;sits 0 0;harbour;green 1;man b;grey 2;knows 1 c 4;knows 1 c 6");
        due.is("count(0)", x.count(0), 2);
        due.is("count(1)", x.count(1), 1);
        due.is("count(3)", x.count(3), 0);
        due.is("bird(0, 0)", x.bird(0, 0), 4);
        due.is("bird(0, 1)", x.bird(0, 1), 1);
        due.is("bird(1, 0)", x.bird(1, 0), 1);
        due.is("known(0, 0, 0)", x.known(0, 0, 0), 0);
        due.is("known(1, 2, 0)", x.known(1, 2, 0), 6);
        due.is("man(0, 0)", x.man(0, 0), 2);
        due.is("man(0, 1)", x.man(0, 1), NONE);
        ParrotSpeech y = Due.harbour("hawk 3;man a;harbour");
        for (int what = 0; what < 10; what++) {
            due.is("count(" + what + ")", y.count(what), 0);
        }
    }

    private static void earlierTexts() {
        due.promise("what earlier texts told stays as it was told");
        ParrotSpeech x = Due.harbour("parrot 1;man ab;knows 0 c 4;sits 0 0;parrot 1;cover 1");
        x.evening(5);
        x.moult(0);
        x.teach(1, 0);
        x.cover(1);
        x.cover(0);
        x.perch(0, 3);
        x.sit(0, 1);
        Due.write(x, "grey 2");
        due.is("harbour()", x.harbour(), 1);
        due.is("count(0)", x.count(0), 3);
        due.is("count(1)", x.count(1), 1);
        due.is("count(3)", x.count(3), 2);
        due.is("bird(0, 1)", x.bird(0, 1), 1);
        due.is("bird(0, 3)", x.bird(0, 3), 0);
        due.is("man(0, 0)", x.man(0, 0), 3);
        due.is("known(0, 2, 0)", x.known(0, 2, 0), 4);
        due.is("known(0, 0, 0)", x.known(0, 0, 0), 0);
        due.is("known(1, 0, 0)", x.known(1, 0, 0), 0);
        Due.write(x, "man j;sits 1 2");
        due.is("harbour()", x.harbour(), 2);
        due.is("count(0)", x.count(0), 3);
        due.is("count(1)", x.count(1), 2);
        due.is("bird(2, 3)", x.bird(2, 3), 1);
        due.is("bird(0, 3)", x.bird(0, 3), 0);
    }

    private static void behindThem() {
        due.promise("Behind them all is as told, it is EVENING 0, nothing is SEEN, nothing is kept or can be undone; REELS, THE TONGUE stay");
        ParrotSpeech x = Due.harbour("parrot 1;parrot 1;knows 0 a 9");
        Due.tongue(x, "aa");
        for (int i = 0; i < 9; i++) {
            x.evening(1);
        }
        x.keep(0);
        x.keep(1);
        for (int i = 0; i < 6; i++) {
            x.seen(1, 9, NONE);
        }
        x.reel(0, 1, 1);
        x.record(0, 1, 0, 7);
        x.reel(2, 3, 2);
        x.record(2, 3, 1, 1);
        Due.write(x, "harbour;parrot 1;parrot 1;knows 0 a 9");
        due.is("harbour()", x.harbour(), 4);
        due.is("count(2)", x.count(2), 0);
        due.is("count(5)", x.count(5), 0);
        due.is("count(6)", x.count(6), 2);
        due.is("count(7)", x.count(7), 0);
        due.is("undo()", x.undo(), NOT);
        due.is("back(0)", x.back(0), NOT);
        due.is("back(1)", x.back(1), NOT);
        due.is("play(0, 1, 0)", x.play(0, 1, 0), 100007);
        due.is("play(2, 3, 1)", x.play(2, 3, 1), 1);
        due.is("of(1, 0)", x.of(1, 0), 1);
        due.is("seen(1, 0, 0)", x.seen(1, 0, 0), 1);
    }

    // ---- a tongue

    private static void faultsOfTongues() {
        due.promise("SUM is ROW, perhaps |, ROW ..; ROW is one PART or more; FAULTS as above");
        for (char c = 'a'; c <= 'j'; c++) {
            tongueStands("" + c, 1);
        }
        String[] standing = {".", "aa", "a.", "a b", " a ", "a|b", "a | b|c", "a*", "a *", "a*b*", "a*|b*", "(a)", "( a )", "(a)*", "(a*)*",
            "(a|b)", "(a)|(b)", "a(b)c", "((a)|b)*"};
        int[] words = {1, 2, 2, 2, 1, 2, 3, 1, 1, 2, 2, 1, 1, 1, 1, 2, 2, 3, 2};
        for (int i = 0; i < standing.length; i++) {
            tongueStands(standing[i], words[i]);
        }
        String[] faulty = {"k", "z", "0", "`", "A", "J", ";", "a0", "a;", "ak", "", " ", "   ", "|", "|a", "a|", "a| ", "a||b", "a|*",
            "*", "**", "a**", "a* *", "a(*b)", "()", "( )", "(", "( ", "(a", "(a ", "(a|", "(a|)", "(|a)", "a)", ")", "(a))", "(a)**", "(a)b*)",
            "a()", "a(|b)", "a*()", "a|()"};
        int[] places = {0, 0, 0, 0, 0, 0, 0, 1, 1, 1, 0, 1, 3, 0, 0, 2, 3, 2, 2,
            0, 0, 2, 3, 2, 1, 2, 1, 2, 2, 3, 3, 3, 1, 1, 0, 3, 4, 5,
            2, 2, 3, 3};
        due.is("the tables' lengths", faulty.length, places.length);
        for (int i = 0; i < faulty.length; i++) {
            tongueFaulty(faulty[i], places[i]);
        }
        for (int sign : STRANGE) {
            if (sign != '.') {
                tongueFaulty("a" + (char) sign, 1);
                tongueFaulty("(" + (char) sign, 1);
                tongueFaulty("" + (char) sign, 0);
            }
        }
    }

    private static void depthOfTongues() {
        due.promise("( 6 deep at most (the seventh: at it)");
        tongueStands("((((((a))))))", 1);
        tongueStands("((((((a))))))((((((b))))))|((((((c))))))", 3);
        tongueStands("((((((a)(b))))))", 2);
        tongueStands("(a)".repeat(7), 7);
        tongueFaulty("(((((((a)))))))", 6);
        tongueFaulty("(((((((", 6);
        tongueFaulty("a(b(c(d(e(f(g(", 13);
        tongueFaulty("((((((a((b", 7);
        tongueFaulty("((((((a))))))(((((((b", 19);
        tongueFaulty("((((((a)((b", 9);
        tongueFaulty(" ( ( ( ( ( ( ( a", 13);
        tongueFaulty("((((((", 6);
    }

    private static void lettersOfATongue() {
        due.promise("THE TONGUE is told in THE TEXT, too (200 letters)");
        tongueStands("a".repeat(200), 200);
        tongueStands(".".repeat(199) + "*", 199);
        tongueStands(" ".repeat(199) + "j", 1);
        tongueStands("a|".repeat(99) + "a", 100);
        tongueStands("(a)".repeat(66), 66);
        tongueFaulty("a".repeat(199) + "|", 200);
        tongueFaulty("a".repeat(199) + "k", 199);
        tongueFaulty(" ".repeat(200), 200);
        // The letters of a longer tongue that was there ahead of it are gone.
        ParrotSpeech x = Due.harbour("parrot 0;knows 0 a 9");
        Due.tongue(x, "(b|c)*(d|e)");
        Due.tongue(x, "(a)");
        due.is("of(0, 0)", x.of(0, 0), 1);
        due.is("of(0, 1)", x.of(0, 1), 1);
    }

    private static void tongueStays() {
        due.promise("6 tongue, refused");
        ParrotSpeech x = Due.harbour("parrot 0;knows 0 a 9");
        Due.tongue(x, "a");
        Due.write(x, "b|");
        due.is("tongue()", x.tongue(), NOT);
        due.is("of(0, 0)", x.of(0, 0), 1);
        due.is("count(8)", x.count(8), 2);
        Due.write(x, "c");
        due.is("tongue()", x.tongue(), 2);
        due.is("of(0, 0)", x.of(0, 0), 0);
        Due.write(x, "");
        due.is("tongue() of nothing", x.tongue(), NOT);
        due.is("of(0, 0)", x.of(0, 0), 0);
    }
}
