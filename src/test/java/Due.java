/** Counts answers that are not the ones that are due, and tells each of them. */
final class Due {
    private int wrong;
    private int asked;
    private String part = "";

    void promise(String name) {
        part = name;
    }

    void is(String call, long got, long want) {
        asked++;
        if (got != want) {
            wrong++;
            System.out.println(part + ": " + call + " answered " + got + ", due is " + want);
        }
    }

    void that(String what, boolean holds) {
        is(what, holds ? 1 : 0, 1);
    }

    void end() {
        System.out.println(asked + " answers asked for, " + wrong + " not as due");
        if (wrong != 0) {
            System.exit(1);
        }
    }

    static void write(ParrotSpeech x, String text) {
        for (int i = 0; i < text.length(); i++) {
            x.write(text.charAt(i));
        }
    }

    /** A new object whose text has been told. */
    static ParrotSpeech harbour(String text) {
        ParrotSpeech x = new ParrotSpeech();
        write(x, text);
        if (x.harbour() < 0) {
            throw new IllegalStateException("the test's own text has a fault: " + text);
        }
        return x;
    }

    static void tongue(ParrotSpeech x, String text) {
        write(x, text);
        if (x.tongue() < 0) {
            throw new IllegalStateException("the test's own tongue has a fault: " + text);
        }
    }

    /** All that can be asked for without changing it, to see whether a call changed anything. */
    static String state(ParrotSpeech x) {
        StringBuilder all = new StringBuilder();
        for (int what = 0; what < 10; what++) {
            all.append(x.count(what)).append(' ');
        }
        all.append(x.fault(0)).append(' ').append(x.fault(1)).append(' ');
        for (int b = 0; b < x.count(0); b++) {
            for (int what = 0; what < 5; what++) {
                all.append(x.bird(b, what)).append(' ');
            }
            for (int w = 0; w < 10; w++) {
                all.append(x.known(b, w, 0)).append(' ');
            }
            all.append(x.kinds(b)).append(' ');
        }
        for (int m = 0; m < x.count(1); m++) {
            all.append(x.man(m, 0)).append(' ').append(x.man(m, 1)).append(' ');
        }
        for (int perch = 0; perch < 4; perch++) {
            all.append(x.of(perch, 0)).append(' ').append(x.of(perch, 1)).append(' ');
        }
        for (int reel = 0; reel < 3; reel++) {
            all.append(row(x, reel)).append(' ');
        }
        return all.toString();
    }

    /** A reel's places, taken as of each sort up to the first one that there is not. */
    private static String row(ParrotSpeech x, int reel) {
        StringBuilder all = new StringBuilder();
        for (int sort = 0; sort < 4; sort++) {
            for (int i = 0; i <= 12; i++) {
                int found = x.play(reel, sort, i);
                all.append(found).append(' ');
                if (found == ParrotSpeech.NULL || found == ParrotSpeech.CAST || found == ParrotSpeech.INDEX) {
                    break;
                }
            }
        }
        return all.toString();
    }
}
