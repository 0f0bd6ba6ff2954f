import java.io.IOException;
import java.lang.reflect.Constructor;
import java.lang.reflect.Field;
import java.lang.reflect.Method;
import java.lang.reflect.Modifier;
import java.nio.charset.StandardCharsets;
import java.nio.file.Files;
import java.nio.file.Path;
import java.util.Arrays;
import java.util.HashSet;
import java.util.Set;
import java.util.TreeSet;
import java.util.regex.Matcher;
import java.util.regex.Pattern;

/** The public face, and the rules of LANGUAGE.md that can be seen in the class or in its text. */
public final class FaceTest {
    private static final Due due = new Due();

    private static final String[] FACE = {
        "write 1", "erase 0", "fault 1", "harbour 0", "tongue 0", "bird 2", "man 2", "known 3", "as 2", "evening 1",
        "teach 2", "moult 1", "perch 2", "cover 1", "sit 2", "undo 0", "keep 1", "back 1", "said 2", "when 3",
        "keeps 3", "match 2", "clean 3", "of 2", "left 3", "seen 3", "forget 0", "kinds 1", "reel 3", "record 4",
        "play 3", "splice 5", "drop 1", "count 1",
    };
    private static final String[] CONSTANTS = {
        "NONE", "UNKNOWN", "OUTSIDE", "NOT", "FULL", "NULL", "CAST", "STORE", "INDEX", "EMPTY", "SIZE",
    };

    private static final Set<String> LIBRARY = Set.of("Integer.bitCount", "Integer.numberOfTrailingZeros", "Math.max",
        "Math.min", "System.arraycopy");

    public static void main(String[] args) throws IOException {
        methods();
        fieldsAndConstructors();
        classesInside();
        text();
        due.end();
    }

    private static void methods() {
        due.promise("the face: methods");
        due.that("the class is public and final", ParrotSpeech.class.getModifiers() == (Modifier.PUBLIC | Modifier.FINAL));
        Set<String> found = new TreeSet<>();
        Set<String> names = new HashSet<>();
        for (Method m : ParrotSpeech.class.getDeclaredMethods()) {
            if (Modifier.isPublic(m.getModifiers())) {
                due.that(m + " is of ints", m.getReturnType() == int.class && !Modifier.isStatic(m.getModifiers())
                    && Arrays.stream(m.getParameterTypes()).allMatch(t -> t == int.class));
                found.add(m.getName() + " " + m.getParameterCount());
                names.add(m.getName());
            }
        }
        due.that("all the methods and no other: " + found, found.equals(new TreeSet<>(Arrays.asList(FACE))));
        for (Method m : ParrotSpeech.class.getDeclaredMethods()) {
            if (!Modifier.isPublic(m.getModifiers())) {
                due.that(m + " is private", Modifier.isPrivate(m.getModifiers()));
                due.that(m + " bears no public one's name", !names.contains(m.getName()));
            }
        }
        for (Class<?> c : ParrotSpeech.class.getDeclaredClasses()) {
            for (Method m : c.getDeclaredMethods()) {
                due.that(m + " bears no public one's name", !names.contains(m.getName()));
                due.that(m + " takes seven at most", m.getParameterCount() <= 7);
            }
        }
    }

    private static void fieldsAndConstructors() {
        due.promise("the face: constants, constructor");
        Set<String> found = new TreeSet<>();
        for (Field f : ParrotSpeech.class.getDeclaredFields()) {
            if (Modifier.isPublic(f.getModifiers())) {
                due.that(f + " is a constant", f.getType() == int.class && Modifier.isStatic(f.getModifiers())
                    && Modifier.isFinal(f.getModifiers()));
                found.add(f.getName());
            } else {
                due.that(f + " is private", Modifier.isPrivate(f.getModifiers()));
            }
        }
        due.that("all the constants and no other: " + found, found.equals(new TreeSet<>(Arrays.asList(CONSTANTS))));
        Constructor<?>[] constructors = ParrotSpeech.class.getDeclaredConstructors();
        due.is("constructors", constructors.length, 1);
        due.is("its parameters", constructors[0].getParameterCount(), 0);
        due.that("it is public", Modifier.isPublic(constructors[0].getModifiers()));
    }

    private static void classesInside() {
        due.promise("classes inside");
        Class<?>[] inside = ParrotSpeech.class.getDeclaredClasses();
        due.that("some twelve classes at most", inside.length <= 11);
        for (Class<?> c : inside) {
            due.that(c + " is static, not public", Modifier.isStatic(c.getModifiers())
                && !Modifier.isPublic(c.getModifiers()) && !Modifier.isProtected(c.getModifiers()));
            due.that(c + " has some twenty fields at most", fieldsOf(c) <= 20);
        }
        due.that("the class has some twenty fields at most", fieldsOf(ParrotSpeech.class) <= 20);
    }

    private static long fieldsOf(Class<?> c) {
        return Arrays.stream(c.getDeclaredFields()).filter(f -> !Modifier.isStatic(f.getModifiers())).count();
    }

    private static void text() throws IOException {
        due.promise("the text of the class");
        String source = Files.readString(Path.of(System.getProperty("parrot.source", "src/main/java/ParrotSpeech.java")),
            StandardCharsets.US_ASCII);
        String bare = source.replaceAll("(?s)/\\*.*?\\*/", " ").replaceAll("//[^\n]*", " ");
        String[] never = {"throw", "throws", "try", "catch", "synchronized", "assert", "import", "package", "hashCode",
            "equals", "protected", "native", "Object", "Exception", "Error", "random", "Random", "Thread"};
        for (String word : never) {
            due.that("no " + word, !Pattern.compile("\\b" + word + "\\b").matcher(bare).find());
        }
        due.that("no lambda", !bare.contains("->"));
        due.that("no method reference", !bare.contains("::"));
        Matcher library = Pattern.compile("\\b(?!ParrotSpeech\\b|Text\\b|Tongue\\b)([A-Z][a-z]\\w*\\.\\w+)").matcher(bare);
        while (library.find()) {
            due.that(library.group() + " is of the library that is left", LIBRARY.contains(library.group()));
        }
        due.that("no static block", !Pattern.compile("\\bstatic\\s*\\{").matcher(bare).find());
        Matcher methods = Pattern.compile("(?ms)^( +)(?:public |private |static )*\\w+ \\w+\\([^)]*\\) \\{\n(.*?)^\\1\\}").matcher(source);
        int found = 0;
        while (methods.find()) {
            found++;
            long lines = methods.group(2).lines().count();
            due.that("sixty lines at most: " + methods.group().lines().findFirst().get(), lines <= 60);
        }
        due.that("methods are found", found > FACE.length);
    }
}
