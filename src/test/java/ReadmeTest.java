import java.io.IOException;
import java.lang.reflect.Method;
import java.lang.reflect.Modifier;
import java.nio.file.Files;
import java.nio.file.Path;
import java.util.List;
import java.util.regex.Matcher;
import java.util.regex.Pattern;

/** README.md's examples, one behind the other: each call must answer what is told there behind it. */
public final class ReadmeTest {
    private static final Pattern CALL = Pattern.compile("x\\.(\\w+)\\(([-0-9, ]*)\\); *// (-?\\d+|[A-Z]+)(:.*)?");
    private static final Pattern WRITTEN = Pattern.compile("write\\(x, \"([^\"]*)\"\\);");
    private static final Pattern CONSTANT = Pattern.compile("\\| `([A-Z]+)` *\\| *(-\\d+) \\|.*");

    private static final Due due = new Due();
    private static ParrotSpeech x;
    private static int calls;

    public static void main(String[] args) throws IOException, ReflectiveOperationException {
        List<String> lines = Files.readAllLines(Path.of("README.md"));
        due.promise("README.md");
        examples(lines);
        constants(lines);
        names(String.join("\n", lines));
        due.end();
    }

    private static void examples(List<String> lines) throws ReflectiveOperationException {
        boolean inExample = false;
        for (int i = 0; i < lines.size(); i++) {
            String line = lines.get(i);
            if (line.startsWith("```")) {
                // The method that writes a text tells no answers: Due.write stands for it here.
                inExample = line.equals("```java") && !lines.get(i + 1).startsWith("static void write(");
            } else if (inExample) {
                example(line);
            }
        }
        due.that("calls are found", calls > 40);
    }

    private static void example(String line) throws ReflectiveOperationException {
        Matcher call = CALL.matcher(line);
        Matcher written = WRITTEN.matcher(line);
        if (line.equals("ParrotSpeech x = new ParrotSpeech();")) {
            x = new ParrotSpeech();
        } else if (written.matches()) {
            Due.write(x, written.group(1));
        } else if (call.matches()) {
            calls++;
            due.is(line, answer(call.group(1), call.group(2)), number(call.group(3)));
        } else {
            due.that("'" + line + "' can be followed", false);
        }
    }

    private static int answer(String name, String told) throws ReflectiveOperationException {
        String[] parts = told.isEmpty() ? new String[0] : told.split(", ");
        Object[] numbers = new Object[parts.length];
        Class<?>[] types = new Class<?>[parts.length];
        for (int i = 0; i < parts.length; i++) {
            numbers[i] = Integer.valueOf(parts[i]);
            types[i] = int.class;
        }
        return (Integer) ParrotSpeech.class.getMethod(name, types).invoke(x, numbers);
    }

    private static int number(String told) throws ReflectiveOperationException {
        return Character.isLetter(told.charAt(0)) ? ParrotSpeech.class.getField(told).getInt(null) : Integer.parseInt(told);
    }

    private static void constants(List<String> lines) throws ReflectiveOperationException {
        int found = 0;
        for (String line : lines) {
            Matcher constant = CONSTANT.matcher(line);
            if (constant.matches()) {
                found++;
                due.is(constant.group(1), number(constant.group(1)), Integer.parseInt(constant.group(2)));
            }
        }
        due.is("refusals in the table", found, 10);
    }

    private static void names(String all) {
        for (Method method : ParrotSpeech.class.getDeclaredMethods()) {
            if (Modifier.isPublic(method.getModifiers())) {
                due.that(method.getName() + " is named", all.contains("`" + method.getName() + "`"));
            }
        }
    }
}
