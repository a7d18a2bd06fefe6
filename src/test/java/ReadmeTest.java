import java.io.IOException;
import java.lang.reflect.Method;
import java.lang.reflect.Modifier;
import java.nio.file.Files;
import java.nio.file.Path;
import java.util.ArrayList;
import java.util.Arrays;
import java.util.List;
import java.util.Set;
import java.util.TreeSet;
import java.util.regex.Matcher;
import java.util.regex.Pattern;

/**
 * What README.md says of the use is so. Each line of its example is made as a call, and the answer
 * at the begin of the line's comment, and the text that the comment tells, must be those found.
 * Its table must name every method of the class, with the right parameters, and no other.
 */
public final class ReadmeTest {
    private static final String ALPHABET = "abcde01234=+*();{} ";
    private static final String FIRST_LINE = "EditedText x = new EditedText();";
    private static final Pattern CALL = Pattern.compile("x\\.(\\w+)\\(([^)]*)\\);\\s*// (.*)");
    private static final Pattern ANSWER = Pattern.compile("(-?\\d+|true|false|EditedText\\.[A-Z_]+)\\b.*");
    private static final Pattern TEXT = Pattern.compile(".*the text is `([^`]*)`.*");
    private static final Pattern TABLE_CALL = Pattern.compile("^\\| `(\\w+)\\(([^)]*)\\)` \\|.*");

    private static int failures = 0;

    public static void main(String[] args) throws IOException {
        List<String> lines = Files.readAllLines(Path.of("README.md"));
        makeCalls(exampleIn(lines));
        compareTable(lines);
        System.out.println(failures == 0 ? "the README is right" : failures + " lines of the README are not right");
        if (failures != 0) {
            System.exit(1);
        }
    }

    private static void fail(String words) {
        failures++;
        System.out.println("README.md: " + words);
    }

    private static List<String> exampleIn(List<String> lines) {
        int first = lines.indexOf("```java") + 1;
        if (first == 0) {
            return List.of();
        }
        List<String> rest = lines.subList(first, lines.size());
        return rest.subList(0, Math.max(0, rest.indexOf("```")));
    }

    private static void makeCalls(List<String> example) {
        if (example.size() < 2 || !example.get(0).equals(FIRST_LINE)) {
            fail("there is no example that begins with " + FIRST_LINE);
            return;
        }
        EditedText x = new EditedText();
        for (String line : example.subList(1, example.size())) {
            Matcher call = CALL.matcher(line);
            if (call.matches()) {
                makeCall(x, line, call.group(1), call.group(2), call.group(3));
            } else {
                fail("no call with a comment: " + line);
            }
        }
    }

    private static void makeCall(EditedText x, String line, String name, String arguments, String comment) {
        Object got;
        try {
            Integer[] numbers = numbersIn(arguments);
            Class<?>[] types = new Class<?>[numbers.length];
            Arrays.fill(types, int.class);
            Method method = EditedText.class.getMethod(name, types);
            got = method.invoke(x, (Object[]) numbers);
        } catch (ReflectiveOperationException | NumberFormatException thrown) {
            fail("\"" + line + "\" cannot be called: " + thrown);
            return;
        }
        if (got != null) {
            compareAnswer(line, comment, got.toString());
        }
        Matcher told = TEXT.matcher(comment);
        if (told.matches() && !told.group(1).equals(textOf(x))) {
            fail("\"" + line + "\" left the text " + textOf(x));
        }
    }

    private static Integer[] numbersIn(String arguments) {
        List<Integer> numbers = new ArrayList<>();
        for (String word : arguments.isBlank() ? new String[0] : arguments.split(",")) {
            numbers.add(Integer.valueOf(word.trim()));
        }
        return numbers.toArray(new Integer[0]);
    }

    private static void compareAnswer(String line, String comment, String got) {
        Matcher told = ANSWER.matcher(comment);
        if (!told.matches()) {
            fail("\"" + line + "\" tells no answer");
        } else if (!valueOf(told.group(1)).equals(got)) {
            fail("\"" + line + "\" answered " + got);
        }
    }

    private static String valueOf(String word) {
        switch (word) {
            case "EditedText.BAD_ARG": return "" + EditedText.BAD_ARG;
            case "EditedText.FULL": return "" + EditedText.FULL;
            case "EditedText.NONE": return "" + EditedText.NONE;
            default: return word;
        }
    }

    private static String textOf(EditedText x) {
        StringBuilder text = new StringBuilder();
        for (int p = 0; p < x.length(); p++) {
            text.append(ALPHABET.charAt(x.character(p)));
        }
        return text.toString();
    }

    private static void compareTable(List<String> lines) {
        Set<String> told = new TreeSet<>();
        for (String line : lines) {
            Matcher call = TABLE_CALL.matcher(line);
            if (call.matches() && !told.add(call.group(1) + " " + wordsIn(call.group(2)))) {
                fail("told twice: " + line);
            }
        }
        Set<String> found = new TreeSet<>();
        for (Method method : EditedText.class.getDeclaredMethods()) {
            if (Modifier.isPublic(method.getModifiers())) {
                found.add(method.getName() + " " + method.getParameterCount());
            }
        }
        if (!told.equals(found)) {
            fail("the table tells " + told + ", the class has " + found);
        }
    }

    private static int wordsIn(String parameters) {
        return parameters.isBlank() ? 0 : parameters.split(",").length;
    }
}
