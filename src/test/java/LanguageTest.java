import java.io.IOException;
import java.lang.reflect.Constructor;
import java.lang.reflect.Field;
import java.lang.reflect.Method;
import java.lang.reflect.Modifier;
import java.nio.file.Files;
import java.nio.file.Path;
import java.util.Arrays;
import java.util.Set;
import java.util.TreeSet;
import java.util.regex.Matcher;
import java.util.regex.Pattern;

/** The rules of LANGUAGE.md that can be seen from the text and from the compiled class. */
public final class LanguageTest {
    private static final Checks T = new Checks("LanguageTest");
    private static final Set<String> FACE = Set.of("feed", "take", "read", "fault", "begin", "colour",
        "frame", "control", "paint", "write", "out", "about", "frameOf", "colourOf", "index", "canvas");

    private static final Set<String> CALLS = Set.of(
        "int feed(int, int, int, int, int)", "int take()", "int read(int)", "int fault(int)",
        "boolean begin(int, int, int, int)", "boolean colour(int, int, int)",
        "int frame(int, int, int, int, int, boolean)",
        "boolean control(int, int, int, int, boolean)", "boolean paint(int, int, int, int)",
        "int write()", "int out(int)", "int about(int)", "int frameOf(int, int)",
        "int colourOf(int, int)", "int index(int, int)", "int canvas(int, int, int)");

    public static void main(String[] args) throws IOException, ReflectiveOperationException {
        face();
        calls();
        none();
        names();
        words(Files.readString(Path.of("src/main/java/PictureReel.java")));
        lengths(Files.readString(Path.of("src/main/java/PictureReel.java")));
        T.finish();
    }

    private static void face() {
        Set<String> open = new TreeSet<>();
        for (Method m : PictureReel.class.getDeclaredMethods()) {
            if (!Modifier.isPrivate(m.getModifiers())) {
                T.due(m.getName() + " is public", Modifier.isPublic(m.getModifiers()), true);
                open.add(m.getName());
            }
        }
        T.due("the face", open.equals(new TreeSet<>(FACE)), true);
        for (Field f : PictureReel.class.getDeclaredFields()) {
            boolean hidden = Modifier.isPrivate(f.getModifiers());
            T.due(f.getName() + " is hidden", hidden, !f.getName().equals("NONE"));
        }
        Constructor<?>[] makers = PictureReel.class.getDeclaredConstructors();
        T.due("constructors", makers.length, 1);
        T.due("its parameters", makers[0].getParameterCount(), 0);
        T.due("final", Modifier.isFinal(PictureReel.class.getModifiers()), true);
    }

    private static void calls() {
        Set<String> found = new TreeSet<>();
        for (Method m : PictureReel.class.getMethods()) {
            if (m.getDeclaringClass() == PictureReel.class) {
                String types = Arrays.toString(m.getParameterTypes());
                found.add(m.getReturnType() + " " + m.getName() + "("
                    + types.substring(1, types.length() - 1) + ")");
                T.due(m.getName() + " is a call of an object", Modifier.isStatic(m.getModifiers()), false);
            }
        }
        for (String call : CALLS) {
            T.due("the face has " + call, found.contains(call), true);
        }
        T.due("the face has so many calls", found.size(), CALLS.size());
    }

    private static void none() throws ReflectiveOperationException {
        Field none = PictureReel.class.getField("NONE");
        T.due("NONE is of the class", Modifier.isStatic(none.getModifiers()), true);
        T.due("NONE stays", Modifier.isFinal(none.getModifiers()), true);
        T.due("NONE is an int", none.getType() == int.class, true);
        T.due("NONE", none.getInt(null), -1);
    }

    private static void names() {
        Class<?>[] inside = PictureReel.class.getDeclaredClasses();
        T.due("classes", inside.length < 12, true);
        for (Class<?> c : inside) {
            T.due(c.getName() + " is static", Modifier.isStatic(c.getModifiers()), true);
            T.due(c.getName() + " has few fields", c.getDeclaredFields().length <= 20, true);
            for (Method m : c.getDeclaredMethods()) {
                T.due(c.getName() + " " + m.getName(), FACE.contains(m.getName()), false);
                T.due(m.getName() + " has few parameters", m.getParameterCount() <= 7, true);
            }
        }
    }

    private static void words(String text) {
        String code = text.replaceAll("(?s)/\\*.*?\\*/", "").replaceAll("//[^\n]*", "");
        String[] refused = {"throw", "throws", "try", "catch", "finally", "synchronized", "assert",
            "package", "import", "->", "::", "Exact", "hashCode", "toString", "Object", "\""};
        for (String word : refused) {
            boolean plain = Character.isLetter(word.charAt(0));
            Matcher m = Pattern.compile(plain ? "\\b" + word + "\\b" : Pattern.quote(word)).matcher(code);
            T.due("a text with " + word, m.find(), false);
        }
    }

    /** No method of more than sixty lines: between a head at some indent and its closing brace. */
    private static void lengths(String text) {
        Matcher m = Pattern.compile("(?m)^( {4}| {8})[^ \n/*].*\\) \\{\n(?s:.*?)\n\\1\\}$").matcher(text);
        int methods = 0;
        while (m.find()) {
            methods++;
            String head = m.group().substring(0, m.group().indexOf('\n')).trim();
            T.due(head + " is short", m.group().lines().count() <= 60, true);
        }
        T.due("methods are found", methods > 60, true);
    }
}
