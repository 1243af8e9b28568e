import java.io.IOException;
import java.lang.reflect.Field;
import java.lang.reflect.Method;
import java.lang.reflect.Modifier;
import java.nio.charset.StandardCharsets;
import java.nio.file.Path;
import java.util.Arrays;
import java.util.regex.Matcher;
import java.util.regex.Pattern;

/** README.md: its examples answer as they say, and no call or constant is missing there. */
public final class ReadmeTest {
    private static final Pattern EXAMPLE = Pattern.compile("(?s)\n```java\n(.*?)\n```\n");
    private static final Pattern NEW =
        Pattern.compile("LayeredImage disk = new LayeredImage\\((\\d+)\\);( +// .*)?");
    private static final Pattern CALL =
        Pattern.compile("disk\\.(\\w+)\\(([^()]*)\\); +// (-?\\w+)(: .*)?");

    private static final Checks CHECKS = new Checks("ReadmeTest");

    public static void main(String[] args) throws IOException, ReflectiveOperationException {
        byte[] bytes = java.nio.file.Files.readAllBytes(Path.of(args[2]));
        String text = new String(bytes, StandardCharsets.UTF_8);
        Matcher examples = EXAMPLE.matcher(text);
        int found = 0;
        while (examples.find()) {
            example(examples.group(1));
            found++;
        }
        CHECKS.hold("there are examples", found > 0);
        face(text);
        CHECKS.end();
    }

    private static void example(String lines) throws ReflectiveOperationException {
        LayeredImage disk = null;
        for (String line : lines.split("\n")) {
            Matcher made = NEW.matcher(line);
            Matcher call = CALL.matcher(line);
            if (made.matches()) {
                disk = new LayeredImage(Integer.parseInt(made.group(1)));
            } else if (disk != null && call.matches()) {
                long got = number(answer(disk, call.group(1), call.group(2)));
                CHECKS.due(line, got, due(call.group(3)));
            } else {
                CHECKS.hold("an example's line can be read: " + line, false);
            }
        }
    }

    private static Object answer(LayeredImage disk, String name, String given)
            throws ReflectiveOperationException {
        Object[] values = given.isEmpty() ? new Object[0]
            : Arrays.stream(given.split(", ")).map(Integer::valueOf).toArray();
        Class<?>[] types = new Class<?>[values.length];
        Arrays.fill(types, int.class);
        return LayeredImage.class.getMethod(name, types).invoke(disk, values);
    }

    private static long number(Object answer) {
        return answer instanceof Boolean ? (boolean) answer ? 1 : 0 : ((Number) answer).longValue();
    }

    private static long due(String told) throws ReflectiveOperationException {
        if (told.equals("true") || told.equals("false")) {
            return told.equals("true") ? 1 : 0;
        }
        return Character.isUpperCase(told.charAt(0))
            ? number(LayeredImage.class.getField(told).get(null)) : Long.parseLong(told);
    }

    /** Each call has a row of the table, with as many names as it takes, and an example. */
    private static void face(String text) throws ReflectiveOperationException {
        for (Method method : LayeredImage.class.getDeclaredMethods()) {
            if (Modifier.isPublic(method.getModifiers())) {
                String names = "\\w+(, \\w+){" + Math.max(0, method.getParameterCount() - 1) + "}";
                String call = method.getName() + "\\(" + (method.getParameterCount() == 0 ? "" : names)
                    + "\\)";
                CHECKS.hold("the table has " + method, text.matches("(?s).*\n\\| `" + call + "` \\| .*"));
                CHECKS.hold("an example has " + method, text.contains("\ndisk." + method.getName() + "("));
            }
        }
        for (Field field : LayeredImage.class.getFields()) {
            String constant = "`" + field.getName() + "` " + field.get(null);
            CHECKS.hold("the constants have " + constant, text.contains(constant));
        }
    }
}
