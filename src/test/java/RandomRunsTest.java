import java.lang.reflect.InvocationTargetException;
import java.lang.reflect.Method;
import java.util.ArrayList;
import java.util.Arrays;
import java.util.List;
import java.util.Random;

/** Long runs of calls, the same each time, on ParrotSpeech and on PlainHarbour: all answers must agree. */
public final class RandomRunsTest {
    private static final int RUNS = Integer.getInteger("parrot.runs", 1500);
    private static final int CALLS = 512;
    private static final int[] ODD = {Integer.MIN_VALUE, Integer.MAX_VALUE, -3, -2, -1, 10, 11, 13, 16, 21, 61, 256};

    private final Random random;
    private final ParrotSpeech real = new ParrotSpeech();
    private final PlainHarbour plain = new PlainHarbour();
    private final List<String> calls = new ArrayList<>();
    private static int asked;

    private RandomRunsTest(long seed) {
        random = new Random(seed);
    }

    public static void main(String[] args) throws ReflectiveOperationException {
        for (int seed = 0; seed < RUNS; seed++) {
            String wrong = seed % 3 == 0 ? new RandomRunsTest(seed).runOfTongues() : new RandomRunsTest(seed).run();
            if (wrong != null) {
                System.out.println("run " + seed + ": " + wrong);
                System.exit(1);
            }
        }
        System.out.println(asked + " answers in " + RUNS + " runs agree");
    }

    private String run() throws ReflectiveOperationException {
        while (calls.size() < CALLS) {
            String wrong;
            int choice = random.nextInt(100);
            if (plain.count(0) == 0 || choice < 1) {
                wrong = tell(harbourText(), random.nextInt(8) == 0 ? "fault" : "harbour");
            } else if (choice < 4) {
                wrong = tell(tongueText(), random.nextInt(6) == 0 ? "fault" : "tongue");
            } else {
                wrong = call(anyMethod());
            }
            if (wrong != null) {
                return wrong;
            }
        }
        return null;
    }

    /** Eight birds that say much on one perch, and tongues of few words. */
    private String runOfTongues() throws ReflectiveOperationException {
        StringBuilder text = new StringBuilder();
        for (int b = 0; b < 8; b++) {
            text.append(random.nextBoolean() ? "parrot 0;" : "cockatoo 0;");
        }
        for (int b = 0; b < 8; b++) {
            text.append("knows ").append(b).append(' ').append((char) ('a' + random.nextInt(3))).append(" 9;");
        }
        text.setLength(text.length() - 1);
        String wrong = tell(text.toString(), "harbour");
        while (wrong == null && calls.size() < CALLS) {
            wrong = tell(tongueText(), "tongue");
            for (int what = 0; what < 2 && wrong == null; what++) {
                wrong = call(method("of"), 0, what);
            }
            if (wrong == null && random.nextInt(4) == 0) {
                wrong = call(method("evening"), 1);
            }
        }
        return wrong;
    }

    private String tell(String text, String then) throws ReflectiveOperationException {
        String wrong = call(method("erase"));
        for (int i = 0; i < text.length() && wrong == null; i++) {
            wrong = call(method("write"), (int) text.charAt(i));
        }
        for (int what = 0; what < 2 && wrong == null; what++) {
            wrong = call(method("fault"), what);
        }
        return wrong != null || then.equals("fault") ? wrong : call(method(then));
    }

    // ---- texts

    private String harbourText() {
        StringBuilder text = new StringBuilder();
        String[] kinds = {"parrot", "parrot", "grey", "cockatoo", "cockatoo", "hawk", "green"};
        int birds = 1 + random.nextInt(8);
        int perches = 1 + random.nextInt(4);
        int men = random.nextInt(5);
        if (random.nextInt(3) != 0) {
            text.append("harbour;");
        }
        for (int b = 0; b < birds; b++) {
            text.append(kinds[random.nextInt(random.nextInt(3) == 0 ? 7 : 5)]).append(' ').append(random.nextInt(perches)).append(';');
        }
        for (int m = 0; m < men; m++) {
            text.append("man ").append(words()).append(';');
        }
        int more = random.nextInt(9);
        for (int i = 0; i < more; i++) {
            int kind = random.nextInt(5);
            int bird = random.nextInt(birds);
            if (kind == 0) {
                text.append("cover ").append(bird).append(';');
            } else if (kind < 3 && men > 0) {
                text.append("sits ").append(random.nextInt(men)).append(' ').append(bird).append(';');
            } else {
                text.append("knows ").append(bird).append(' ').append((char) ('a' + random.nextInt(random.nextInt(3) == 0 ? 10 : 4))).append(' ')
                    .append(random.nextInt(10)).append(';');
            }
        }
        text.setLength(text.length() - 1);
        return spoilt(text);
    }

    private String words() {
        StringBuilder words = new StringBuilder();
        for (char c = 'a'; c <= 'j'; c++) {
            if (random.nextInt(3) == 0) {
                words.append(c);
            }
        }
        return words.length() == 0 ? "c" : words.toString();
    }

    private String tongueText() {
        StringBuilder text = new StringBuilder();
        sum(text, 0);
        return spoilt(text);
    }

    private void sum(StringBuilder text, int depth) {
        int rows = 1 + random.nextInt(2) * random.nextInt(3);
        for (int r = 0; r < rows; r++) {
            text.append(r > 0 ? "|" : "");
            int parts = 1 + random.nextInt(3);
            for (int p = 0; p < parts; p++) {
                int kind = random.nextInt(8);
                if (kind < 3 && depth < 6 + random.nextInt(8) / 7) {
                    text.append('(');
                    sum(text, depth + 1);
                    text.append(')');
                } else {
                    text.append(kind == 7 ? '.' : (char) ('a' + random.nextInt(random.nextInt(3) == 0 ? 10 : 3)));
                }
                text.append(random.nextInt(3) == 0 ? "*" : "");
            }
        }
    }

    /** Sometimes with a letter put in, taken out or changed. */
    private String spoilt(StringBuilder text) {
        String signs = "abjkz019 ;()|*. \tA";
        int changes = random.nextInt(3) == 0 ? 1 + random.nextInt(2) : 0;
        for (int i = 0; i < changes; i++) {
            int at = random.nextInt(text.length() + 1);
            char sign = signs.charAt(random.nextInt(signs.length()));
            if (random.nextInt(3) == 0) {
                text.insert(at, sign);
            } else if (random.nextBoolean() && at < text.length()) {
                text.setCharAt(at, sign);
            } else if (at < text.length() && text.length() > 1) {
                text.deleteCharAt(at);
            }
        }
        text.setLength(Math.min(text.length(), 203));
        return text.toString();
    }

    // ---- calls

    private static final List<Method> METHODS = methods();

    private static List<Method> methods() {
        List<Method> all = new ArrayList<>();
        for (Method m : ParrotSpeech.class.getDeclaredMethods()) {
            if (java.lang.reflect.Modifier.isPublic(m.getModifiers())) {
                all.add(m);
            }
        }
        all.sort((a, b) -> a.getName().compareTo(b.getName()));
        return all;
    }

    private static Method method(String name) {
        for (Method m : METHODS) {
            if (m.getName().equals(name)) {
                return m;
            }
        }
        throw new IllegalStateException(name);
    }

    private Method anyMethod() {
        Method m = METHODS.get(random.nextInt(METHODS.size()));
        boolean dull = List.of("write", "erase", "harbour", "tongue", "undo", "moult", "forget", "drop").contains(m.getName());
        return dull && random.nextInt(3) != 0 ? anyMethod() : m;
    }

    private String call(Method m, Object... given) throws ReflectiveOperationException {
        Object[] args = given.length > 0 || m.getParameterCount() == 0 ? given : arguments(m);
        Method other = PlainHarbour.class.getDeclaredMethod(m.getName(), m.getParameterTypes());
        calls.add(m.getName() + Arrays.toString(args));
        asked++;
        Object got;
        try {
            got = m.invoke(real, args);
        } catch (InvocationTargetException e) {
            e.printStackTrace(System.out);
            return "threw; its calls: " + calls;
        }
        Object want = other.invoke(plain, args);
        return got.equals(want) ? null : "answered " + got + ", not " + want + "; its calls: " + calls;
    }

    private Object[] arguments(Method m) {
        Object[] args = new Object[m.getParameterCount()];
        for (int i = 0; i < args.length; i++) {
            args[i] = argument(m.getName(), i);
        }
        if (m.getName().equals("seen") && random.nextInt(3) != 0) {
            // What will be said indeed, so that some kinds are left.
            args[2] = Math.max(-1, plain.said((Integer) args[0], (Integer) args[1]));
        }
        return args;
    }

    private int argument(String name, int i) {
        if (random.nextInt(25) == 0) {
            return ODD[random.nextInt(ODD.length)];
        }
        if (random.nextInt(40) == 0) {
            return random.nextInt();
        }
        switch (sorts(name).charAt(i)) {
            case 'b':
                return random.nextInt(Math.max(1, plain.count(0)));
            case 'B':
                return random.nextInt(plain.count(0) + 1) - 1;
            case 'm':
                return random.nextInt(Math.max(1, plain.count(1)));
            case 'M':
                return random.nextInt(plain.count(1) + 1) - 1;
            case 'w':
                return random.nextInt(random.nextInt(3) == 0 ? 10 : 4);
            case 'W':
                return random.nextInt(random.nextInt(3) == 0 ? 11 : 4) - 1;
            case 'p':
                return random.nextInt(random.nextInt(3) == 0 ? 4 : 2);
            case 'i':
                return random.nextInt(random.nextInt(3) == 0 ? 16 : 3);
            case 'n':
                return random.nextInt(random.nextInt(3) == 0 ? 61 : 13);
            case 'v':
                return random.nextBoolean() ? random.nextInt() >> random.nextInt(32) : plain.count(0) - 1;
            default:
                return random.nextInt(sorts(name).charAt(i) - '0' + 1);
        }
    }

    /** Of each argument: a bird, a man, a word (great letters: or NONE), a perch .., or the greatest digit. */
    private static String sorts(String name) {
        switch (name) {
            case "write":
                return "v";
            case "fault":
            case "keep":
            case "back":
                return "1";
            case "bird":
                return "b4";
            case "man":
                return "m1";
            case "known":
                return "bwn";
            case "as":
                return "b5";
            case "evening":
                return "n";
            case "teach":
                return "bw";
            case "moult":
            case "cover":
            case "kinds":
                return "b";
            case "perch":
                return "bp";
            case "sit":
                return "mB";
            case "said":
                return "pi";
            case "when":
                return "bw9";
            case "keeps":
                return "mbn";
            case "match":
                return "nM";
            case "clean":
                return "bwn";
            case "of":
                return "p1";
            case "left":
                return "wi1";
            case "seen":
                return "piW";
            case "reel":
                return "13n";
            case "record":
                return "133v";
            case "play":
                return "133";
            case "splice":
                return "13133";
            case "drop":
                return "2";
            default:
                return "9";
        }
    }
}
