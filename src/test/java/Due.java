/** Counts answers that are not the ones that are due, and tells each of them. */
final class Due {
    private int wrong;
    private int asked;
    private String part = "";

    void promise(String name) {
        part = name;
    }

    void is(String call, long got, long want) {
        asked++;
        if (got != want) {
            wrong++;
            System.out.println(part + ": " + call + " answered " + got + ", due is " + want);
        }
    }

    void that(String what, boolean holds) {
        is(what, holds ? 1 : 0, 1);
    }

    void end() {
        System.out.println(asked + " answers asked for, " + wrong + " not as due");
        if (wrong != 0) {
            System.exit(1);
        }
    }

    static void write(ParrotSpeech x, String text) {
        for (int i = 0; i < text.length(); i++) {
            x.write(text.charAt(i));
        }
    }

    /** A new object whose text has been told. */
    static ParrotSpeech harbour(String text) {
        ParrotSpeech x = new ParrotSpeech();
        write(x, text);
        if (x.harbour() < 0) {
            throw new IllegalStateException("the test's own text has a fault: " + text);
        }
        return x;
    }

    static void tongue(ParrotSpeech x, String text) {
        write(x, text);
        if (x.tongue() < 0) {
            throw new IllegalStateException("the test's own tongue has a fault: " + text);
        }
    }

    /** All that count(), bird(), man(), known() tell now, to see whether a call changed anything. */
    static String state(ParrotSpeech x) {
        StringBuilder all = new StringBuilder();
        for (int what = 0; what < 10; what++) {
            all.append(x.count(what)).append(' ');
        }
        for (int b = 0; b < x.count(0); b++) {
            for (int what = 0; what < 5; what++) {
                all.append(x.bird(b, what)).append(' ');
            }
            for (int w = 0; w < 10; w++) {
                all.append(x.known(b, w, 0)).append(' ');
            }
        }
        for (int m = 0; m < x.count(1); m++) {
            all.append(x.man(m, 0)).append(' ').append(x.man(m, 1)).append(' ');
        }
        return all.toString();
    }
}
