import java.io.IOException;
import java.nio.charset.StandardCharsets;
import java.nio.file.Path;
import java.util.Arrays;
import java.util.LinkedHashMap;
import java.util.Map;
import java.util.Set;
import java.util.TreeSet;
import java.util.regex.Matcher;
import java.util.regex.Pattern;

/**
 * Reads the program's text for what LANGUAGE.md rules out. A rough reader: it
 * knows methods by their names alone, and looks at how deep calls go only while
 * each method has a name of its own.
 */
public final class LanguageTest {
    private static final int MOST_LINES = 60;
    private static final int MOST_DEPTH = 8;
    private static final int FACE_METHODS = 17;
    private static final Set<String> RULED_OUT = new TreeSet<>(Arrays.asList(
        "package", "throw", "throws", "try", "catch", "finally", "synchronized", "assert",
        "hashCode", "protected", "volatile", "transient", "native",
        "Object", "Thread", "Random", "random", "Exception", "Error", "HashMap", "HashSet",
        "TreeMap", "Runtime", "Collections", "Stream", "Optional", "File", "Character", "Boolean",
        "Double", "Float"));
    private static final Set<String> IMPORTS = new TreeSet<>(Arrays.asList(
        "java.util.ArrayList", "java.util.Arrays", "java.util.Iterator", "java.util.List"));
    private static final Pattern HEAD = Pattern.compile("\\n +(?:public |private |static |final )*"
        + "(?:[\\w<>\\[\\]]+ )?(\\w+)\\(([^()]*)\\) \\{\\n");
    private static final Pattern CALL = Pattern.compile("(\\w+)\\(");

    private static final Checks CHECKS = new Checks("LanguageTest");

    public static void main(String[] args) throws IOException {
        Path path = Path.of(args.length > 0 ? args[0] : "src/main/java/LayeredImage.java");
        byte[] bytes = java.nio.file.Files.readAllBytes(path);
        for (byte sign : bytes) {
            CHECKS.hold("signs are 1 to 127", sign > 0);
        }
        String text = bare(new String(bytes, StandardCharsets.US_ASCII));
        words(text);
        library(text);
        Map<String, String> methods = methods(text);
        CHECKS.hold("the reader finds the methods", methods.size() >= FACE_METHODS);
        if (!methods.containsValue("")) {
            for (String name : methods.keySet()) {
                depth(name, methods, new TreeSet<>());
            }
        }
        CHECKS.end();
    }

    /** Without comments and signs in quotes. */
    private static String bare(String text) {
        return text.replaceAll("(?s)/\\*.*?\\*/", "").replaceAll("//[^\\n]*", "")
            .replaceAll("\"[^\"\\n]*\"", "\"\"");
    }

    private static void words(String text) {
        Matcher words = Pattern.compile("\\w+").matcher(text);
        boolean texts = text.contains("String");
        while (words.find()) {
            String word = words.group();
            CHECKS.hold("the word " + word + " is not in the program", !RULED_OUT.contains(word)
                && (texts || !word.equals("equals") && !word.equals("toString")));
        }
        CHECKS.hold("no reference to a method", !text.contains("::"));
        CHECKS.hold("no lambda", !text.replaceAll("(case [^;{}]*?|default) ->", "").contains("->"));
        CHECKS.hold("no static block", !Pattern.compile("static\\s*\\{").matcher(text).find());
    }

    /** Rule 4. */
    private static void library(String text) {
        Matcher imports = Pattern.compile("import\\s+([^;]*);").matcher(text);
        while (imports.find()) {
            CHECKS.hold(imports.group() + " is in rule 4", IMPORTS.contains(imports.group(1)));
        }
        Matcher calls = Pattern.compile("\\b(System|Math|Arrays|Integer|Long)\\.(\\w+)").matcher(text);
        while (calls.find()) {
            String name = calls.group(2);
            CHECKS.hold(calls.group() + " is in rule 4", switch (calls.group(1)) {
                case "System" -> name.equals("arraycopy");
                case "Arrays" -> Arrays.asList("copyOf", "copyOfRange", "fill").contains(name);
                default -> !name.endsWith("Exact");
            });
        }
    }

    /** The methods' names and bodies; no body where two have the same name. */
    private static Map<String, String> methods(String text) {
        Map<String, String> methods = new LinkedHashMap<>();
        Matcher head = HEAD.matcher(text);
        int from = 0;
        while (head.find(from)) {
            if (head.group().contains(" record ")) {
                from = head.end() - 1;
                continue;
            }
            int end = bodyEnd(text, head.end());
            String body = text.substring(head.end(), end);
            CHECKS.hold(head.group(1) + " is short",
                body.chars().filter(sign -> sign == '\n').count() <= MOST_LINES);
            methods.merge(head.group(1), body, (one, other) -> "");
            from = end;
        }
        return methods;
    }

    private static int bodyEnd(String text, int from) {
        int open = 1;
        int at = from;
        while (open > 0 && at < text.length()) {
            open += text.charAt(at) == '{' ? 1 : text.charAt(at) == '}' ? -1 : 0;
            at++;
        }
        return at;
    }

    /** Rule 11; a method that comes to call itself is not followed further. */
    private static void depth(String name, Map<String, String> methods, Set<String> open) {
        if (open.contains(name)) {
            return;
        }
        CHECKS.hold("calls go " + MOST_DEPTH + " deep at most: " + open + " " + name,
            open.size() < MOST_DEPTH);
        if (open.size() < MOST_DEPTH) {
            Set<String> path = new TreeSet<>(open);
            path.add(name);
            Matcher calls = CALL.matcher(methods.get(name));
            while (calls.find()) {
                if (methods.containsKey(calls.group(1))) {
                    depth(calls.group(1), methods, path);
                }
            }
        }
    }
}
