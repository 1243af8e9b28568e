import java.io.IOException;
import java.nio.charset.StandardCharsets;
import java.nio.file.Path;
import java.util.Arrays;
import java.util.LinkedHashMap;
import java.util.Map;
import java.util.Set;
import java.util.TreeSet;
import java.util.regex.Matcher;
import java.util.regex.Pattern;

/**
 * Reads the program's text for what LANGUAGE.md rules out. A rough reader: it
 * knows methods by their names alone, so it can see more calls than there are.
 */
public final class LanguageTest {
    private static final int MOST_LINES = 60;
    private static final int MOST_DEPTH = 8;
    private static final Set<String> RULED_OUT = new TreeSet<>(Arrays.asList(
        "package", "import", "throw", "throws", "try", "catch", "finally", "synchronized", "assert",
        "equals", "hashCode", "toString", "protected", "volatile", "transient", "native",
        "Object", "Thread", "Random", "Exception", "Error", "HashMap", "Runtime", "instanceof",
        "var", "yield", "Float", "Double", "Character", "Boolean", "Collections"));
    private static final Pattern HEAD = Pattern.compile(
        "\\n {4,8}(?:public |private |static )*(?:[\\w\\[\\]]+ )?(\\w+)\\(([^()]*)\\) \\{\\n");
    private static final Pattern CALL = Pattern.compile("(\\w+)\\(");

    private static final Checks CHECKS = new Checks("LanguageTest");

    public static void main(String[] args) throws IOException {
        Path path = Path.of(args.length > 0 ? args[0] : "src/main/java/LayeredImage.java");
        byte[] bytes = java.nio.file.Files.readAllBytes(path);
        for (byte sign : bytes) {
            CHECKS.hold("signs are 1 to 127", sign > 0);
        }
        String text = bare(new String(bytes, StandardCharsets.US_ASCII));
        words(text);
        Map<String, String> methods = methods(text);
        CHECKS.hold("the reader finds the methods", methods.size() > 60);
        for (String name : methods.keySet()) {
            depth(name, methods, new TreeSet<>());
        }
        CHECKS.end();
    }

    /** Without comments and signs in quotes. */
    private static String bare(String text) {
        return text.replaceAll("(?s)/\\*.*?\\*/", "").replaceAll("//[^\\n]*", "")
            .replaceAll("\"[^\"\\n]*\"", "\"\"");
    }

    private static void words(String text) {
        Matcher words = Pattern.compile("\\w+").matcher(text);
        while (words.find()) {
            CHECKS.hold("the word " + words.group() + " is not in the program",
                !RULED_OUT.contains(words.group()));
        }
        Matcher library = Pattern.compile("\\b(System|Math|Arrays|Integer|Long)\\.(\\w+)").matcher(text);
        while (library.find()) {
            CHECKS.hold(library.group() + " is in rule 4",
                Arrays.asList("System.arraycopy", "Math.min", "Math.max").contains(library.group()));
        }
        CHECKS.hold("no lambda and no reference to a method",
            !text.contains("->") && !text.contains("::"));
        CHECKS.hold("no text", !text.contains("\""));
        CHECKS.hold("no static block", !Pattern.compile("static\\s*\\{").matcher(text).find());
    }

    private static Map<String, String> methods(String text) {
        Map<String, String> methods = new LinkedHashMap<>();
        Matcher head = HEAD.matcher(text);
        int from = 0;
        while (head.find(from)) {
            int end = bodyEnd(text, head.end());
            String body = text.substring(head.end(), end);
            CHECKS.hold(head.group(1) + " is short",
                body.chars().filter(sign -> sign == '\n').count() <= MOST_LINES);
            CHECKS.hold(head.group(1) + " has a name of its own",
                methods.put(head.group(1), body) == null);
            from = end;
        }
        return methods;
    }

    private static int bodyEnd(String text, int from) {
        int open = 1;
        int at = from;
        while (open > 0 && at < text.length()) {
            open += text.charAt(at) == '{' ? 1 : text.charAt(at) == '}' ? -1 : 0;
            at++;
        }
        return at;
    }

    private static int depth(String name, Map<String, String> methods, Set<String> open) {
        CHECKS.hold(name + " does not come to call itself", !open.contains(name));
        CHECKS.hold("calls go " + MOST_DEPTH + " deep at most: " + open + " " + name,
            open.size() < MOST_DEPTH);
        if (open.contains(name) || open.size() >= MOST_DEPTH) {
            return 1;
        }
        Set<String> path = new TreeSet<>(open);
        path.add(name);
        int deepest = 0;
        Matcher calls = CALL.matcher(methods.get(name));
        while (calls.find()) {
            if (methods.containsKey(calls.group(1))) {
                deepest = Math.max(deepest, depth(calls.group(1), methods, path));
            }
        }
        return deepest + 1;
    }
}
