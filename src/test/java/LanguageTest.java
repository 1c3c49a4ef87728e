import java.nio.file.Files;
import java.nio.file.Path;
import java.util.Map;
import java.util.Set;
import java.util.TreeMap;
import java.util.TreeSet;
import java.util.regex.Matcher;
import java.util.regex.Pattern;

/** What can be read off the source of the rules in LANGUAGE.md: words that must not stand there, lengths, depths. */
final class LanguageTest {
    private static final String[] REFUSED = {
        "\\bthrow\\b", "\\btry\\b", "\\bcatch\\b", "\\bsynchronized\\b", "\\bassert\\b", "->", "::", "\\bpackage\\s",
        "\\bThread\\b", "\\bRandom\\b", "System\\.(?!arraycopy)", "\\w+Exact\\b", "\\bhashCode\\b", "\\btoString\\b",
        "static\\s*\\{", "while\\s*\\(true", "\\bvar\\b", "boolean\\[\\]\\["};

    /** A method begins at a line that ends with ") {" and stands just inside a class, and ends at its own brace. */
    private static final Pattern HEAD =
            Pattern.compile("^( {4}| {8})(public|private|static|int|boolean|void|[A-Z]\\w+\\().*\\) \\{$");
    private static final Pattern NAME = Pattern.compile("\\b([a-z]\\w*)\\(");
    private static final int MOST_DEEP = 8;

    public static void main(String[] args) throws Exception {
        String source = Files.readString(Path.of("src/main/java/ClassRules.java"));
        String code = source.replaceAll("(?s)/\\*.*?\\*/", "").replaceAll("//[^\n]*", "");
        for (String refused : REFUSED) {
            Matcher matcher = Pattern.compile(refused).matcher(code);
            Due.same("'" + refused + "' stands in the source", matcher.find() ? 1 : 0, 0);
        }
        for (String line : code.split("\n")) {
            if (line.startsWith("import ")) {
                Due.same(line + " is a listed one", line.matches("import java\\.util\\.(Arrays|List|ArrayList);") ? 1 : 0, 1);
            }
        }
        checkClasses();
        checkMethodLengths(source);
        checkCallDepths(code);
        Due.end();
    }

    private static void checkClasses() {
        Class<?>[] inner = ClassRules.class.getDeclaredClasses();
        Due.same("too many classes", inner.length > 11 ? 1 : 0, 0);
        for (Class<?> one : inner) {
            long fields = java.util.Arrays.stream(one.getDeclaredFields())
                    .filter(f -> !java.lang.reflect.Modifier.isStatic(f.getModifiers())).count();
            Due.same(one + " has too many fields", fields > 20 ? 1 : 0, 0);
            for (java.lang.reflect.Method method : one.getDeclaredMethods()) {
                Due.same(method + " has too many parameters", method.getParameterCount() > 7 ? 1 : 0, 0);
            }
        }
    }

    private static void checkMethodLengths(String source) {
        String[] lines = source.split("\n");
        for (int i = 0; i < lines.length; i++) {
            if (HEAD.matcher(lines[i]).find()) {
                Due.same("too long: " + lines[i].trim(), endOf(lines, i) - i > 60 ? 1 : 0, 0);
            }
        }
    }

    private static int endOf(String[] lines, int start) {
        Matcher matcher = HEAD.matcher(lines[start]);
        String brace = matcher.find() ? matcher.group(1) + "}" : "}";
        int end = start;
        while (!lines[end].equals(brace)) {
            end++;
        }
        return end;
    }

    /** Methods of one name are taken for one, so what is found is never less than the calls really go. */
    private static void checkCallDepths(String code) {
        Map<String, Set<String>> calls = new TreeMap<>();
        String[] lines = code.split("\n");
        for (int i = 0; i < lines.length; i++) {
            Matcher name = NAME.matcher(lines[i]);
            if (HEAD.matcher(lines[i]).find() && name.find()) {
                Set<String> called = calls.computeIfAbsent(name.group(1), n -> new TreeSet<>());
                for (int at = i + 1; at < endOf(lines, i); at++) {
                    Matcher call = NAME.matcher(lines[at]);
                    while (call.find()) {
                        called.add(call.group(1));
                    }
                }
            }
        }
        for (String method : calls.keySet()) {
            int depth = depthOf(method, calls, 1);
            Due.same(method + " goes deeper than " + MOST_DEEP + " calls", depth > MOST_DEEP ? 1 : 0, 0);
        }
        Due.same("few methods were read", calls.size() > 60 ? 1 : 0, 1);
    }

    /** A method that calls itself by way of others goes too deep as well, and so is told. */
    private static int depthOf(String method, Map<String, Set<String>> calls, int open) {
        int deepest = open;
        if (open <= MOST_DEEP) {
            for (String called : calls.getOrDefault(method, Set.of())) {
                deepest = Math.max(deepest, depthOf(called, calls, open + 1));
            }
        }
        return deepest;
    }
}
