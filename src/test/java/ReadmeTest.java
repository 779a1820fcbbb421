import java.io.IOException;
import java.lang.reflect.InvocationTargetException;
import java.lang.reflect.Method;
import java.lang.reflect.Modifier;
import java.nio.charset.StandardCharsets;
import java.nio.file.Files;
import java.nio.file.Path;
import java.util.Arrays;
import java.util.List;
import java.util.regex.Matcher;
import java.util.regex.Pattern;

/** The example in README.md, call by call, so that the page goes on to tell what the class does. */
public final class ReadmeTest {
    private static final Checks CHECK = new Checks("ReadmeTest");
    private static final Pattern CALL = Pattern.compile("x\\.(\\w+)\\(([-\\d, ]*)\\); +// (\\S+): .+");
    private static final String MADE = "SteppedSamples x = new SteppedSamples();";

    public static void main(String[] args) throws ReflectiveOperationException, IOException {
        List<String> page = Files.readAllLines(Path.of("README.md"), StandardCharsets.UTF_8);
        example(page);
        namesEveryCall(String.join("\n", page));
        CHECK.end();
    }

    private static void example(List<String> page) throws ReflectiveOperationException {
        int begin = page.indexOf("```java") + 1;
        int end = begin + page.subList(begin, page.size()).indexOf("```");
        CHECK.holds("there is an example", begin > 0 && end > begin + 1);
        CHECK.dueText("its first line", page.get(begin), MADE);
        SteppedSamples x = new SteppedSamples();
        for (String line : page.subList(begin + 1, end)) {
            Matcher call = CALL.matcher(line);
            boolean readable = call.matches();
            CHECK.holds("a call with its answer: " + line, readable);
            if (readable) {
                CHECK.dueText(line, answer(x, call.group(1), numbers(call.group(2))), call.group(3));
            }
        }
    }

    private static Object[] numbers(String text) {
        if (text.isEmpty()) {
            return new Object[0];
        }
        return Arrays.stream(text.split(", ")).map(Integer::valueOf).toArray();
    }

    private static String answer(SteppedSamples x, String name, Object[] numbers) throws ReflectiveOperationException {
        Class<?>[] types = new Class<?>[numbers.length];
        Arrays.fill(types, int.class);
        try {
            return SteppedSamples.class.getMethod(name, types).invoke(x, numbers).toString();
        } catch (InvocationTargetException e) {
            return e.getCause().getClass().getSimpleName();
        }
    }

    private static void namesEveryCall(String page) {
        for (Method method : SteppedSamples.class.getDeclaredMethods()) {
            if (Modifier.isPublic(method.getModifiers())) {
                CHECK.holds("the page names " + method.getName(), page.contains("`" + method.getName() + "`"));
            }
        }
    }
}
