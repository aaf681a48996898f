import java.io.IOException;
import java.lang.reflect.Method;
import java.lang.reflect.Modifier;
import java.nio.charset.StandardCharsets;
import java.nio.file.Files;
import java.nio.file.Path;
import java.util.regex.Matcher;
import java.util.regex.Pattern;

/** README.md tells how to use the class: its example answers as it says, and it names every call. */
public final class ReadmeTest {
    private static final Pattern TEXT = Pattern.compile("\"(e[^\"]*)\"\\.toCharArray");
    private static final Pattern CALL = Pattern.compile("(?m)^land\\.(\\w+)\\(([-\\d, ]*)\\);(.*)$");
    private static final Pattern ANSWER = Pattern.compile("\\s+// (-?\\d+): .*");

    private static final Due d = new Due();

    public static void main(String[] args) throws IOException, ReflectiveOperationException {
        String page = Files.readString(Path.of("README.md"), StandardCharsets.UTF_8);
        exampleAnswersAsItSays(page);
        everyCallIsNamed(page);
        d.end();
    }

    private static void exampleAnswersAsItSays(String page) throws ReflectiveOperationException {
        EscrowLand land = new EscrowLand();
        Matcher text = TEXT.matcher(page);
        d.holds("the page tells a text", text.find());
        for (char letter : text.group(1).toCharArray()) {
            land.feed(letter);
        }
        int calls = 0;
        for (Matcher call = CALL.matcher(page); call.find(); calls++) {
            Matcher answer = ANSWER.matcher(call.group(3));
            d.holds("the page tells an answer: " + call.group(), answer.matches());
            d.due(call.group(), answer(land, call.group(1), call.group(2)), Long.parseLong(answer.group(1)));
        }
        d.holds("the page tells calls: " + calls, calls > 10);
    }

    private static long answer(EscrowLand land, String name, String numbers) throws ReflectiveOperationException {
        String[] each = numbers.isBlank() ? new String[0] : numbers.split(", ");
        Object[] given = new Object[each.length];
        Class<?>[] ints = new Class<?>[each.length];
        for (int i = 0; i < each.length; i++) {
            given[i] = Integer.valueOf(each[i]);
            ints[i] = int.class;
        }
        return ((Number) EscrowLand.class.getMethod(name, ints).invoke(land, given)).longValue();
    }

    private static void everyCallIsNamed(String page) {
        for (Method method : EscrowLand.class.getDeclaredMethods()) {
            if (Modifier.isPublic(method.getModifiers())) {
                d.holds("named: " + method.getName(), page.contains("`" + method.getName() + "`"));
            }
        }
    }
}
