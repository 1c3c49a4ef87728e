import java.nio.file.Files;
import java.nio.file.Path;
import java.util.regex.Matcher;
import java.util.regex.Pattern;

/** What can be read off the source of the rules in LANGUAGE.md: words that must not stand there, and lengths. */
final class LanguageTest {
    private static final String[] REFUSED = {
        "\\bthrow\\b", "\\btry\\b", "\\bcatch\\b", "\\bsynchronized\\b", "\\bassert\\b", "->", "::", "\\bpackage\\s",
        "\\bThread\\b", "\\bRandom\\b", "System\\.(?!arraycopy)", "\\w+Exact\\b", "\\bhashCode\\b", "\\btoString\\b",
        "static\\s*\\{", "while\\s*\\(true", "\\bvar\\b", "boolean\\[\\]\\["};

    public static void main(String[] args) throws Exception {
        String source = Files.readString(Path.of("src/main/java/ClassRules.java"));
        String code = source.replaceAll("(?s)/\\*.*?\\*/", "").replaceAll("//[^\n]*", "");
        for (String refused : REFUSED) {
            Matcher matcher = Pattern.compile(refused).matcher(code);
            Due.same("'" + refused + "' stands in the source", matcher.find() ? 1 : 0, 0);
        }
        for (String line : code.split("\n")) {
            if (line.startsWith("import ")) {
                Due.same(line + " is a listed one", line.matches("import java\\.util\\.(Arrays|List|ArrayList);") ? 1 : 0, 1);
            }
        }
        checkClasses();
        checkMethodLengths(source);
        Due.end();
    }

    private static void checkClasses() {
        Class<?>[] inner = ClassRules.class.getDeclaredClasses();
        Due.same("too many classes", inner.length > 11 ? 1 : 0, 0);
        for (Class<?> one : inner) {
            long fields = java.util.Arrays.stream(one.getDeclaredFields())
                    .filter(f -> !java.lang.reflect.Modifier.isStatic(f.getModifiers())).count();
            Due.same(one + " has too many fields", fields > 20 ? 1 : 0, 0);
            for (java.lang.reflect.Method method : one.getDeclaredMethods()) {
                Due.same(method + " has too many parameters", method.getParameterCount() > 7 ? 1 : 0, 0);
            }
        }
    }

    /** A method begins at a line that ends with ") {" and stands just inside a class, and ends at its own brace. */
    private static void checkMethodLengths(String source) {
        String[] lines = source.split("\n");
        Pattern head = Pattern.compile("^( {4}| {8})(public|private|static|int|boolean|void|[A-Z]\\w+\\().*\\) \\{$");
        for (int i = 0; i < lines.length; i++) {
            Matcher matcher = head.matcher(lines[i]);
            if (matcher.find()) {
                int end = i;
                while (!lines[end].equals(matcher.group(1) + "}")) {
                    end++;
                }
                Due.same("too long: " + lines[i].trim(), end - i > 60 ? 1 : 0, 0);
            }
        }
    }
}
