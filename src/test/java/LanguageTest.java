import java.io.IOException;
import java.lang.reflect.Field;
import java.lang.reflect.Method;
import java.lang.reflect.Modifier;
import java.nio.file.Files;
import java.nio.file.Path;
import java.util.Set;
import java.util.TreeSet;
import java.util.regex.Matcher;
import java.util.regex.Pattern;

/** What of LANGUAGE.md can be seen in the source's words and in its classes; run from the root of the project. */
public final class LanguageTest {
    private static final Path SOURCE = Path.of("src/main/java/BuildingClub.java");
    private static final String[] FORBIDDEN = {
        "\\b(throws?|try|catch|finally|synchronized|assert|import|package|native|volatile|transient)\\b",
        "->", "::", "Exact\\b", "\\b(Object|Thread|Runtime|Random|Class|Throwable|\\w*Exception)\\b",
        "\\bSystem\\.(?!arraycopy\\b)", "\\b(hashCode|toString|getClass)\\b", "\\[\\]\\s*\\[\\]\\s*\\[\\]",
        "\\bstatic\\s*\\{", "\\b(public|protected)\\s+(static\\s+)?(class|record|enum|interface)\\b",
        "@\\w+", "\\bwhile\\s*\\(\\s*true\\s*\\)", "\\bfor\\s*\\([^;)]*;\\s*;",
    };
    private static final int MOST_LINES = 60;
    private static final int MOST_CLASSES = 12;
    private static final int MOST_FIELDS = 20;

    public static void main(String[] args) throws IOException {
        String code = withoutCommentsAndTexts(Files.readString(SOURCE));
        for (String words : FORBIDDEN) {
            Matcher matcher = Pattern.compile(words).matcher(code);
            Check.due("no " + words, matcher.find() ? matcher.group() : "", "");
        }
        staticFieldsAreFinal(code);
        nestedClasses(code);
        methods(code);
        fieldsOfEachClass();
        namesOfTheFace();
        Check.end();
    }

    private static String withoutCommentsAndTexts(String source) {
        return source.replaceAll("(?s)/\\*.*?\\*/", " ").replaceAll("//[^\n]*", " ")
            .replaceAll("\"(\\\\.|[^\"\\\\])*\"", "\"\"").replaceAll("'(\\\\.|[^'\\\\])'", "0");
    }

    private static void staticFieldsAreFinal(String code) {
        Matcher matcher = Pattern.compile("\\bstatic\\s+(?!final\\b)[^(){};]*[;=]").matcher(code);
        Check.due("static fields are final", matcher.find() ? matcher.group() : "", "");
    }

    private static void nestedClasses(String code) {
        Matcher matcher = Pattern.compile("([\\w ]*)\\bclass\\s+(\\w+)").matcher(code);
        int classes = 0;
        while (matcher.find()) {
            classes++;
            boolean outer = matcher.group(2).equals("BuildingClub");
            Check.due(matcher.group(2) + " is static", outer || matcher.group(1).contains("static"), true);
        }
        Check.due("at most " + MOST_CLASSES + " classes", classes <= MOST_CLASSES, true);
    }

    private static void methods(String code) {
        String head = "(?m)^ +([\\w\\[\\]]+ )*(\\w+)\\(([^()]*)\\) \\{$";
        Matcher matcher = Pattern.compile(head).matcher(code);
        int methods = 0;
        while (matcher.find()) {
            if (matcher.group(2).matches("if|for|while|switch")) {
                continue;
            }
            methods++;
            int lines = code.substring(matcher.start(), endOf(code, matcher.end())).split("\n").length;
            Check.due(matcher.group(2) + " has " + lines + " lines: short", lines <= MOST_LINES, true);
            int parameters = matcher.group(3).isBlank() ? 0 : matcher.group(3).split(",").length;
            Check.due(matcher.group(2) + " has few parameters", parameters <= 7, true);
        }
        Check.due("methods were found", methods > 40, true);
    }

    private static void fieldsOfEachClass() {
        for (Class<?> one : BuildingClub.class.getDeclaredClasses()) {
            int fields = 0;
            for (Field field : one.getDeclaredFields()) {
                fields += Modifier.isStatic(field.getModifiers()) ? 0 : 1;
            }
            Check.due(one.getSimpleName() + " has " + fields + " fields: some twenty", fields <= MOST_FIELDS, true);
        }
    }

    /** Asked of the classes inside as well, so that a name means one thing in the whole file. */
    private static void namesOfTheFace() {
        Set<String> face = new TreeSet<>();
        for (Method method : BuildingClub.class.getDeclaredMethods()) {
            if (Modifier.isPublic(method.getModifiers())) {
                face.add(method.getName());
            }
        }
        Check.due("public names", face.size(), 16);
        namesBeside(face, BuildingClub.class);
        for (Class<?> one : BuildingClub.class.getDeclaredClasses()) {
            namesBeside(face, one);
        }
    }

    private static void namesBeside(Set<String> face, Class<?> one) {
        for (Method method : one.getDeclaredMethods()) {
            boolean twice = !Modifier.isPublic(method.getModifiers()) && face.contains(method.getName());
            Check.due(one.getSimpleName() + "." + method.getName() + " bears a public name", twice, false);
        }
    }

    private static int endOf(String code, int behindBrace) {
        int depth = 1;
        int at = behindBrace;
        for (; at < code.length() && depth > 0; at++) {
            depth += code.charAt(at) == '{' ? 1 : code.charAt(at) == '}' ? -1 : 0;
        }
        return at;
    }
}
