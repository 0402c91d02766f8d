import java.lang.reflect.Field;
import java.lang.reflect.Method;
import java.lang.reflect.Modifier;
import java.nio.file.Files;
import java.nio.file.Path;
import java.util.regex.Matcher;
import java.util.regex.Pattern;

/** README.md tells how to use the class: its example answers what it says, and no part of the face is left out. */
public final class ReadmeTest {
    private static final Pattern EXAMPLE = Pattern.compile("(?s)```java\n(.*?)```");
    private static final Pattern CALL = Pattern.compile("x\\.(\\w+)\\(([-\\d, ]*)\\); +// (-?\\d+).*");
    private static final String MADE = "MumpsGlobals x = new MumpsGlobals();";

    public static void main(String[] args) throws Exception {
        String text = Files.readString(Path.of("README.md"));
        Matcher example = EXAMPLE.matcher(text);
        boolean found = example.find();
        Checks.holds("README.md has an example", found);
        if (found) {
            exampleAnswersWhatItSays(example.group(1));
            everyCallIsShown(example.group(1));
        }
        wholeFaceIsTold(text);
        Checks.end();
    }

    private static void exampleAnswersWhatItSays(String example) throws Exception {
        MumpsGlobals x = new MumpsGlobals();
        for (String line : example.split("\n")) {
            Matcher call = CALL.matcher(line);
            if (call.matches()) {
                Checks.due(line, answer(x, call.group(1), call.group(2)), Integer.parseInt(call.group(3)));
            } else {
                Checks.holds("a call and its answer: " + line, line.equals(MADE));
            }
        }
    }

    private static int answer(MumpsGlobals x, String name, String arguments) throws Exception {
        String[] words = arguments.isEmpty() ? new String[0] : arguments.split(", *");
        Class<?>[] types = new Class<?>[words.length];
        Object[] numbers = new Object[words.length];
        for (int i = 0; i < words.length; i++) {
            types[i] = int.class;
            numbers[i] = Integer.valueOf(words[i]);
        }
        return (Integer) MumpsGlobals.class.getMethod(name, types).invoke(x, numbers);
    }

    private static void everyCallIsShown(String example) {
        for (Method m : MumpsGlobals.class.getDeclaredMethods()) {
            if (Modifier.isPublic(m.getModifiers())) {
                Checks.holds("the example shows " + m.getName(), example.contains("x." + m.getName() + "("));
            }
        }
    }

    private static void wholeFaceIsTold(String text) throws Exception {
        for (Method m : MumpsGlobals.class.getDeclaredMethods()) {
            if (Modifier.isPublic(m.getModifiers())) {
                Checks.holds("the table tells " + m.getName(), text.contains("| `" + m.getName() + "("));
            }
        }
        for (Field f : MumpsGlobals.class.getDeclaredFields()) {
            if (Modifier.isPublic(f.getModifiers())) {
                String told = "- `" + f.getName() + "` (" + f.getInt(null) + "): ";
                Checks.holds("README.md tells " + told, text.contains(told));
            }
        }
        Checks.holds("README.md tells how to run the tests", text.contains("    .ci/run\n"));
    }
}
