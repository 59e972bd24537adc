import java.io.IOException;
import java.lang.reflect.Constructor;
import java.lang.reflect.Field;
import java.lang.reflect.Method;
import java.lang.reflect.Modifier;
import java.nio.charset.StandardCharsets;
import java.nio.file.Files;
import java.nio.file.Path;
import java.util.ArrayList;
import java.util.List;
import java.util.Set;
import java.util.TreeSet;
import java.util.regex.Matcher;
import java.util.regex.Pattern;

/** The rules of LANGUAGE.md that a look at the source and at the class can tell. */
public final class LanguageTest {
    private static final Path SOURCE = Path.of("src/main/java/ShortStraw.java");
    private static final Set<String> FACE = Set.of(
        "drawer", "of", "sent", "row", "place", "feed", "hut", "told", "draw", "likely", "even", "best", "safest",
        "enough", "leans", "coin", "dice", "turn", "uneven", "most", "see", "fits", "odds", "mean", "book", "looked",
        "judge", "image", "undo", "act", "trace", "taken", "count", "tape", "item", "read", "shift");
    private static final Set<String> CONSTANTS = Set.of("NONE", "BAD", "STATE", "FULL", "NO");
    private static final Set<String> LIBRARY = Set.of(
        "java/lang/Object", "java/lang/String", "java/lang/Math", "java/lang/Long", "java/lang/System", "java/util/Arrays");
    private static final Set<String> CALLS = Set.of(
        "Math.max", "Math.min", "Arrays.fill", "Arrays.copyOf", "System.arraycopy", "Hut.test", "Hut.clause");

    public static void main(String[] args) throws IOException {
        String source = Files.readString(SOURCE, StandardCharsets.ISO_8859_1);
        face();
        classesInside();
        words(plain(source));
        lengths(source);
        library();
        Check.end("LanguageTest");
    }

    private static void face() {
        Set<String> found = new TreeSet<>();
        for (Method method : ShortStraw.class.getDeclaredMethods()) {
            boolean isPrivate = Modifier.isPrivate(method.getModifiers());
            boolean isPublic = Modifier.isPublic(method.getModifiers());
            no("visible: " + method, !isPrivate && !isPublic);
            no("bears a public name: " + method, isPrivate && FACE.contains(method.getName()));
            if (isPublic) {
                no("twice: " + method, !found.add(method.getName()));
            }
        }
        Check.due("the methods of the face", found.equals(FACE) ? 1 : 0, 1);
        Set<String> constants = new TreeSet<>();
        for (Field field : ShortStraw.class.getDeclaredFields()) {
            no("visible: " + field, !Modifier.isPrivate(field.getModifiers()) && !CONSTANTS.contains(field.getName()));
            if (Modifier.isPublic(field.getModifiers())) {
                constants.add(field.getName());
            }
        }
        Check.due("the constants of the face", constants.equals(CONSTANTS) ? 1 : 0, 1);
        Check.due("constructors", ShortStraw.class.getDeclaredConstructors().length, 1);
    }

    private static void classesInside() {
        List<Class<?>> all = new ArrayList<>(List.of(ShortStraw.class.getDeclaredClasses()));
        no("classes: " + all.size(), all.size() + 1 > 12);
        for (Class<?> one : all) {
            no("not static: " + one, !Modifier.isStatic(one.getModifiers()));
            no("public: " + one, Modifier.isPublic(one.getModifiers()) || Modifier.isProtected(one.getModifiers()));
        }
        all.add(ShortStraw.class);
        for (Class<?> one : all) {
            int fields = 0;
            for (Field field : one.getDeclaredFields()) {
                boolean isStatic = Modifier.isStatic(field.getModifiers());
                no("not final: " + field, isStatic && !Modifier.isFinal(field.getModifiers()));
                fields += isStatic ? 0 : 1;
            }
            no("fields of " + one + ": " + fields, fields > 20);
            for (Method method : one.getDeclaredMethods()) {
                no("parameters: " + method, method.getParameterCount() > 7);
                no("bears a public name: " + method, one != ShortStraw.class && FACE.contains(method.getName()));
            }
            for (Constructor<?> made : one.getDeclaredConstructors()) {
                no("parameters: " + made, made.getParameterCount() > 7);
            }
        }
    }

    private static String plain(String source) {
        return source.replaceAll("(?s)/\\*.*?\\*/", " ").replaceAll("//[^\n]*", " ")
            .replaceAll("\"(\\\\.|[^\"\\\\\n])*\"", "\"\"").replaceAll("'(\\\\.|[^'\\\\\n])'", "' '");
    }

    private static void words(String source) {
        String[] banned = {
            "\\b(throw|throws|try|catch|finally|synchronized|assert|volatile|transient|native|instanceof)\\b",
            "->", "::", "@", "\\bprotected\\b", "\\bpackage\\b", "\\w+Exact\\b", "\\b(float|double)\\b",
            "\"\"\\s*\\+", "\\+\\s*\"\"", "\\bstatic\\s*\\{",
        };
        for (String one : banned) {
            Matcher found = Pattern.compile(one).matcher(source);
            no("banned: " + one, found.find());
        }
        Matcher imports = Pattern.compile("import ([^;]*);").matcher(source);
        while (imports.find()) {
            no("import: " + imports.group(1), !imports.group(1).equals("java.util.Arrays"));
        }
        Matcher calls = Pattern.compile("\\b[A-Z]\\w*\\.[a-z]\\w*\\b").matcher(source);
        while (calls.find()) {
            no("call: " + calls.group(), !CALLS.contains(calls.group()));
        }
        no("signs beyond 127", !source.chars().allMatch(c -> c < 128));
    }

    /** By the indents: a body ends with a bracket that stands where its head begins. */
    private static void lengths(String source) {
        String[] lines = source.split("\n");
        Pattern head = Pattern.compile("^( {4}| {8})\\S.*\\) \\{$");
        for (int i = 0; i < lines.length; i++) {
            Matcher found = head.matcher(lines[i]);
            if (found.find()) {
                int end = i;
                while (end < lines.length - 1 && !lines[end].equals(found.group(1) + "}")) {
                    end++;
                }
                no("long: " + lines[i].trim(), end - i > 60);
            }
        }
    }

    /** What the compiled classes name of the library, joined texts and lambdas among it. */
    private static void library() throws IOException {
        Path here = Path.of(System.getProperty("java.class.path"));
        List<Path> files = new ArrayList<>();
        try (java.util.stream.Stream<Path> all = Files.list(here)) {
            all.filter(file -> file.getFileName().toString().matches("ShortStraw(\\$.*)?\\.class")).forEach(files::add);
        }
        no("no classes", files.isEmpty());
        for (Path file : files) {
            String bytes = Files.readString(file, StandardCharsets.ISO_8859_1);
            Matcher found = Pattern.compile("java/[\\w/$]+").matcher(bytes);
            while (found.find()) {
                String name = found.group();
                boolean isLookup = name.startsWith("java/lang/invoke/");
                no("library in " + file.getFileName() + ": " + name, isLookup || !LIBRARY.contains(name));
            }
        }
    }

    private static void no(String what, boolean isSo) {
        Check.due(what, isSo ? 1 : 0, 0);
    }
}
