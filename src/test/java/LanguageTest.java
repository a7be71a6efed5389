import java.io.IOException;
import java.lang.reflect.Field;
import java.lang.reflect.Method;
import java.lang.reflect.Modifier;
import java.nio.file.Files;
import java.nio.file.Path;
import java.util.Arrays;
import java.util.List;
import java.util.TreeSet;
import java.util.regex.Matcher;
import java.util.regex.Pattern;

/** What of LANGUAGE.md can be seen from outside: the face, its names, words that are not to stand, lengths. */
public final class LanguageTest {
    private static final List<String> FACE = List.of("feed", "end", "fault", "text", "jar", "hand", "tool", "law", "step",
            "grip", "lacks", "turn", "heat", "work", "dry", "pause", "shut", "table", "undo", "soonest", "order", "run",
            "best", "opens", "share", "cheapest", "safe", "enough", "saves", "openers", "factory", "tried", "forgive",
            "tight", "next", "who", "lefties", "evening", "perform", "log", "image", "back", "count");
    private static final String[] BANNED = {"->", "::", "\\bfinally\\b", "\\bsynchronized\\b", "\\bassert\\b",
        "\\bcatch\\b", "Exact\\(", "\\bstatic \\{", "\\bRandom\\b", "\\bThread\\b", "\\bnanoTime\\b",
        "\\bcurrentTimeMillis\\b", "\\bprotected\\b", "\\bObject\\b", "\\bException e\\b", "\\bvar\\b",
        "System\\.(?!arraycopy)", "Arrays\\.(?!copyOf|fill)", "\\bwhile \\(true\\)", "for \\(;;", "\" \\+", "\\+ \""};

    public static void main(String[] args) throws IOException {
        face();
        String source = Files.readString(Path.of("src/main/java/TightLid.java"));
        for (String word : BANNED) {
            Check.due("not to stand: " + word, Pattern.compile(word).matcher(source).find(), false);
        }
        lengths(source);
        Check.end();
    }

    private static void face() {
        Class<?> face = TightLid.class;
        Check.due("public and final", Modifier.isPublic(face.getModifiers()) && Modifier.isFinal(face.getModifiers()), true);
        TreeSet<String> seen = new TreeSet<>();
        for (Method method : face.getDeclaredMethods()) {
            if (!Modifier.isPrivate(method.getModifiers())) {
                Check.due("no one else's: " + method, FACE.contains(method.getName()), true);
                Check.due("public: " + method, Modifier.isPublic(method.getModifiers()), true);
                seen.add(method.getName());
            } else {
                Check.due("a name of its own: " + method, FACE.contains(method.getName()), false);
            }
        }
        Check.due("all methods", seen.size(), FACE.size());
        for (Field field : face.getDeclaredFields()) {
            boolean constant = field.getName().equals("NONE") || field.getName().equals("HIDDEN");
            Check.due("private: " + field, Modifier.isPrivate(field.getModifiers()), !constant);
            if (Modifier.isStatic(field.getModifiers())) {
                Check.due("final: " + field, Modifier.isFinal(field.getModifiers()), true);
            }
        }
        Check.due("one constructor", face.getDeclaredConstructors().length, 1);
        Class<?>[] inside = face.getDeclaredClasses();
        Check.due("twelve classes at most", inside.length <= 11, true);
        for (Class<?> nested : inside) {
            Check.due("private and static: " + nested, Modifier.isPrivate(nested.getModifiers())
                    && Modifier.isStatic(nested.getModifiers()), true);
            Check.due("twenty fields at most: " + nested, nested.getDeclaredFields().length <= 20, true);
            Arrays.stream(nested.getDeclaredMethods()).forEach(method -> {
                Check.due("a name of its own: " + method, FACE.contains(method.getName()), false);
                Check.due("seven parameters at most: " + method, method.getParameterCount() <= 7, true);
            });
        }
        long own = Arrays.stream(face.getDeclaredFields()).filter(f -> !Modifier.isStatic(f.getModifiers())).count();
        Check.due("twenty fields at most", own <= 20, true);
    }

    private static void lengths(String source) {
        Matcher method = Pattern.compile("(?m)^( {4}| {8})[a-zA-Z][^=;]*\\) (throws \\w+ )?\\{$").matcher(source);
        while (method.find()) {
            int end = source.indexOf("\n" + method.group(1) + "}", method.end());
            long lines = source.substring(method.start(), end).lines().count();
            Check.due("sixty lines at most: " + method.group().trim(), lines <= 60, true);
        }
    }
}
