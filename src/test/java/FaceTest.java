import java.io.IOException;
import java.lang.reflect.Constructor;
import java.lang.reflect.Field;
import java.lang.reflect.Method;
import java.lang.reflect.Modifier;
import java.nio.file.Files;
import java.nio.file.Path;
import java.util.Set;
import java.util.TreeSet;
import java.util.regex.Matcher;
import java.util.regex.Pattern;

/** The public face of the document, and those rules of LANGUAGE.md that can be seen mechanically. */
public final class FaceTest {
    private static final Path SOURCE = Path.of("src/main/java/BreakHeap.java");

    private static final Set<String> FACE = Set.of(
        "make(int,int)", "number(int,int)", "move(int,int)", "store(int,int,int)", "load(int,int,int)",
        "collect()", "fields(int)", "value(int)", "same(int,int)", "used()");

    private static final String[] BANNED_WORDS = {
        "package", "import", "float", "double", "String", "Math", "Integer", "Long", "System", "Arrays",
        "Object", "null", "throw", "throws", "try", "catch", "finally", "synchronized", "assert",
        "instanceof", "protected", "interface", "enum", "record\\s+\\w+\\s*\\(", "var", "->", "::",
    };

    private FaceTest() {
    }

    public static void main(String[] args) throws IOException {
        face();
        members();
        source(withoutComments(Files.readString(SOURCE)));
        Checks.finish();
    }

    private static void face() {
        Checks.due("class is public and final", BreakHeap.class.getModifiers(), Modifier.PUBLIC | Modifier.FINAL);
        Constructor<?>[] constructors = BreakHeap.class.getDeclaredConstructors();
        Checks.due("constructors", constructors.length, 1);
        Checks.due("constructor's parameters", constructors[0].getParameterCount(), 0);
        Checks.due("constructor is public", constructors[0].getModifiers(), Modifier.PUBLIC);
        Set<String> seen = new TreeSet<>();
        for (Method method : BreakHeap.class.getDeclaredMethods()) {
            if (Modifier.isPrivate(method.getModifiers())) {
                continue;
            }
            String text = method.toString();
            seen.add(text.substring(text.lastIndexOf('.') + 1));
            Checks.due(text + " is public", method.getModifiers(), Modifier.PUBLIC);
            Checks.holds(text + " answers an int", method.getReturnType() == int.class);
        }
        Checks.holds("the face is " + seen, seen.equals(FACE));
    }

    private static void members() {
        int variables = 0;
        for (Field field : BreakHeap.class.getDeclaredFields()) {
            Checks.holds(field + " is private", Modifier.isPrivate(field.getModifiers()));
            boolean constant = Modifier.isStatic(field.getModifiers());
            boolean whole = field.getType() == int.class || field.getType() == long.class;
            Checks.holds(field + " is a constant int or long", !constant || whole);
            Checks.holds(field + " is final", !constant || Modifier.isFinal(field.getModifiers()));
            variables += constant ? 0 : 1;
        }
        Checks.holds("at most forty fields", variables <= 40);
        Checks.due("nested classes", BreakHeap.class.getDeclaredClasses().length, 0);
        for (Method method : BreakHeap.class.getDeclaredMethods()) {
            Checks.holds(method + " has few parameters", method.getParameterCount() <= 7);
            boolean hidden = Modifier.isPrivate(method.getModifiers());
            for (String shown : FACE) {
                String name = shown.substring(0, shown.indexOf('('));
                Checks.holds(method + " bears no public name", !hidden || !method.getName().equals(name));
            }
        }
    }

    private static void source(String code) {
        for (String word : BANNED_WORDS) {
            String pattern = Character.isLetter(word.charAt(0)) && word.matches("\\w+") ? "\\b" + word + "\\b" : word;
            Checks.holds("the source has no " + word, !Pattern.compile(pattern).matcher(code).find());
        }
        Matcher made = Pattern.compile("\\bnew\\b[^;]*;").matcher(code);
        while (made.find()) {
            int start = code.lastIndexOf('\n', made.start()) + 1;
            String line = code.substring(start, made.end());
            Checks.holds("an array made in a field's initialiser: " + line,
                line.matches("    private final \\w+\\[] \\w+ = new \\w+\\[[A-Z_]+];"));
        }
    }

    private static String withoutComments(String text) {
        return text.replaceAll("(?s)/\\*.*?\\*/", "").replaceAll("//[^\n]*", "");
    }
}
