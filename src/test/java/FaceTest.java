import java.lang.reflect.Constructor;
import java.lang.reflect.Field;
import java.lang.reflect.Method;
import java.lang.reflect.Modifier;
import java.nio.file.Files;
import java.nio.file.Path;
import java.util.Arrays;
import java.util.Set;
import java.util.TreeSet;
import java.util.regex.Matcher;
import java.util.regex.Pattern;

/** The public face of the document, and those rules of LANGUAGE.md that can be read from the class and its text. */
public final class FaceTest {
    private static final Set<String> FACE = Set.of(
        "set(int, int)", "kill(int)", "value(int)", "data(int)", "query(int)", "order(int, int)",
        "orderBack(int, int)", "count(int)", "merge(int, int)", "size()");
    private static final Set<String> CONSTANTS = Set.of("BAD", "FULL", "NONE", "TOO_DEEP");
    private static final String FORBIDDEN =
        "import|package|String|Math|Integer|System|Arrays|Object|float|double|null|throw|try|catch|synchronized"
        + "|assert|instanceof|interface|enum|record|protected";

    public static void main(String[] args) throws Exception {
        classIsTheOneAsked();
        methodsAreTheOnesAsked();
        fieldsAreTheOnesAsked();
        textKeepsToTheLanguage();
        Checks.end();
    }

    private static void classIsTheOneAsked() {
        Class<?> c = MumpsGlobals.class;
        Checks.holds("the class is public and final", c.getModifiers() == (Modifier.PUBLIC | Modifier.FINAL));
        Checks.holds("no nested class", c.getDeclaredClasses().length == 0);
        Constructor<?>[] made = c.getDeclaredConstructors();
        Checks.holds("one public constructor without arguments",
            made.length == 1 && made[0].getParameterCount() == 0 && Modifier.isPublic(made[0].getModifiers()));
    }

    private static void methodsAreTheOnesAsked() {
        Set<String> open = new TreeSet<>();
        for (Method m : MumpsGlobals.class.getDeclaredMethods()) {
            if (Modifier.isPrivate(m.getModifiers())) {
                Checks.holds("private " + m.getName() + " bears no public name",
                    FACE.stream().noneMatch(f -> f.startsWith(m.getName() + "(")));
                continue;
            }
            String types = Arrays.toString(m.getParameterTypes());
            open.add(m.getName() + "(" + types.substring(1, types.length() - 1) + ")");
            Checks.holds(m.getName() + " is public, not static, and answers int",
                m.getModifiers() == Modifier.PUBLIC && m.getReturnType() == int.class);
        }
        Checks.holds("the methods are those of the document: " + open, open.equals(FACE));
    }

    private static void fieldsAreTheOnesAsked() {
        Set<String> open = new TreeSet<>();
        for (Field f : MumpsGlobals.class.getDeclaredFields()) {
            if (!Modifier.isPrivate(f.getModifiers())) {
                open.add(f.getName());
                Checks.holds(f.getName() + " is a public int constant", f.getType() == int.class
                    && f.getModifiers() == (Modifier.PUBLIC | Modifier.STATIC | Modifier.FINAL));
            }
            if (Modifier.isStatic(f.getModifiers())) {
                Checks.holds("static " + f.getName() + " is an int or long constant", Modifier.isFinal(f.getModifiers())
                    && (f.getType() == int.class || f.getType() == long.class));
            }
        }
        Checks.holds("the constants are those of the document: " + open, open.equals(CONSTANTS));
    }

    private static void textKeepsToTheLanguage() throws Exception {
        String text = Files.readString(Path.of("src/main/java/MumpsGlobals.java"));
        String code = text.replaceAll("(?s)/\\*.*?\\*/", "").replaceAll("//[^\n]*", "");
        Matcher words = Pattern.compile("\\b(" + FORBIDDEN + ")\\b|->|::").matcher(code);
        Checks.holds("no forbidden word", !words.find());
        Matcher made = Pattern.compile("(?m)^(.*)\\bnew\\b").matcher(code);
        while (made.find()) {
            Checks.holds("made in a field's initialiser: " + made.group(),
                made.group(1).startsWith("    private final "));
        }
    }
}
