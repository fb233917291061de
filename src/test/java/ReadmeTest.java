import java.lang.reflect.Method;
import java.lang.reflect.Modifier;
import java.nio.file.Files;
import java.nio.file.Path;
import java.util.Map;
import java.util.Set;
import java.util.TreeMap;
import java.util.TreeSet;
import java.util.regex.Matcher;
import java.util.regex.Pattern;

/** README's example: each call answers what its comment begins with, and no call of the face is left out. */
public final class ReadmeTest {
    private static final Checks CHECKS = new Checks();
    private static final Pattern TYPED = Pattern.compile(
            "for \\(char c : \"(.*)\"\\.toCharArray\\(\\)\\) x\\.type\\((\\d), c\\);.*");
    private static final Pattern CALL = Pattern.compile("x\\.(\\w+)\\((.*?)\\); *// (-?\\d+)\\b.*");

    public static void main(String[] args) throws Exception {
        Map<String, Method> face = face();
        Set<String> used = new TreeSet<>();
        TurnThird x = new TurnThird();
        for (String line : example()) {
            Matcher typed = TYPED.matcher(line);
            Matcher call = CALL.matcher(line);
            if (typed.matches()) {
                Checks.type(x, Integer.parseInt(typed.group(2)), typed.group(1));
            } else if (call.matches()) {
                used.add(call.group(1));
                Object answer = face.get(call.group(1)).invoke(x, numbers(call.group(2)));
                CHECKS.due(line, ((Number) answer).longValue(), Long.parseLong(call.group(3)));
            } else {
                CHECKS.holds("not understood: " + line, line.isBlank() || line.startsWith("// ")
                        || line.equals("TurnThird x = new TurnThird();"));
            }
        }
        CHECKS.holds("every call is shown: " + used, used.equals(face.keySet()));
        CHECKS.end();
    }

    private static String[] example() throws Exception {
        String text = Files.readString(Path.of("README.md"));
        int start = text.indexOf("```java\n") + "```java\n".length();
        return text.substring(start, text.indexOf("```", start)).split("\n");
    }

    private static Map<String, Method> face() {
        Map<String, Method> face = new TreeMap<>();
        for (Method method : TurnThird.class.getDeclaredMethods()) {
            if (Modifier.isPublic(method.getModifiers())) {
                face.put(method.getName(), method);
            }
        }
        return face;
    }

    private static Object[] numbers(String told) {
        if (told.isEmpty()) {
            return new Object[0];
        }
        String[] each = told.split(", ");
        Object[] numbers = new Object[each.length];
        for (int i = 0; i < each.length; i++) {
            numbers[i] = each[i].startsWith("'") ? (int) each[i].charAt(1) : Integer.parseInt(each[i]);
        }
        return numbers;
    }
}
