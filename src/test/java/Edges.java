import java.lang.reflect.Method;
import java.util.Arrays;
import java.util.StringJoiner;
import java.util.function.Supplier;

/**
 * Calls on objects that are all made alike: which numbers are taken, what is refused, and that nothing has
 * changed behind it. What cannot be looked at without changing it (what can be undone, what is kept, the
 * letters of the text) is looked at on one object with the call and on one without it.
 */
final class Edges {
    private static final String[] LOOKS = {"what can be asked", "what is undone", "kept as 0", "kept as 1", "the text"};

    private final Due due;
    private final Supplier<ParrotSpeech> made;
    /** Letters that, put behind the text, make it one that harbour() takes. */
    private final String rest;
    private final String[] untouched = new String[LOOKS.length];

    Edges(Due due, String rest, Supplier<ParrotSpeech> made) {
        this.due = due;
        this.rest = rest;
        this.made = made;
        for (int look = 0; look < LOOKS.length; look++) {
            untouched[look] = look(look, made.get());
        }
    }

    /** This call is answered so on a new object, and changes nothing. */
    void refused(int want, String name, int... args) {
        due.is(told(name, args), call(made.get(), name, args), want);
        unchanged(name, args);
    }

    void unchanged(String name, int... args) {
        for (int look = 0; look < LOOKS.length; look++) {
            ParrotSpeech x = made.get();
            call(x, name, args);
            due.that(told(name, args) + " leaves as it was: " + LOOKS[look], look(look, x).equals(untouched[look]));
        }
    }

    /** Of these arguments that at a place is taken from least to most, and refused on either side. */
    void bounds(int below, int least, int most, int above, String name, int at, int... args) {
        refused(below, name, with(args, at, Integer.MIN_VALUE));
        refused(below, name, with(args, at, least - 1));
        refused(above, name, with(args, at, most + 1));
        refused(above, name, with(args, at, Integer.MAX_VALUE));
        for (int v = least; v <= most; v++) {
            int[] these = with(args, at, v);
            int got = call(made.get(), name, these);
            due.that(told(name, these) + " is taken: " + got, got != below && got != above);
        }
    }

    void bounds(int refusal, int least, int most, String name, int at, int... args) {
        bounds(refusal, least, most, refusal, name, at, args);
    }

    private String look(int look, ParrotSpeech x) {
        switch (look) {
            case 0:
                return Due.state(x);
            case 1:
                return undone(x);
            case 2:
            case 3:
                return x.back(look - 2) + " " + Due.state(x);
            default:
                Due.write(x, rest);
                return x.fault(0) + " " + x.harbour() + " " + Due.state(x);
        }
    }

    private static String undone(ParrotSpeech x) {
        StringBuilder all = new StringBuilder();
        for (int step = 0; step <= 8; step++) {
            all.append(x.undo()).append(' ').append(x.count(2)).append(' ').append(x.count(3)).append(' ').append(x.count(4)).append(' ');
            for (int b = 0; b < Math.min(3, x.count(0)); b++) {
                all.append(x.bird(b, 1)).append(' ').append(x.bird(b, 3)).append(' ');
                for (int w = 0; w < 3; w++) {
                    all.append(x.known(b, w, 0)).append(' ');
                }
            }
        }
        return all.toString();
    }

    private static int[] with(int[] args, int at, int v) {
        int[] all = args.clone();
        all[at] = v;
        return all;
    }

    private static String told(String name, int[] args) {
        StringJoiner all = new StringJoiner(", ", name + "(", ")");
        for (int arg : args) {
            all.add(Integer.toString(arg));
        }
        return all.toString();
    }

    static int call(ParrotSpeech x, String name, int... args) {
        Class<?>[] types = new Class<?>[args.length];
        Arrays.fill(types, int.class);
        try {
            Method m = ParrotSpeech.class.getMethod(name, types);
            return (Integer) m.invoke(x, Arrays.stream(args).boxed().toArray());
        } catch (ReflectiveOperationException e) {
            throw new IllegalStateException(told(name, args), e);
        }
    }
}
