import java.io.IOException;
import java.lang.reflect.Method;
import java.lang.reflect.Modifier;
import java.nio.charset.StandardCharsets;
import java.nio.file.Files;
import java.nio.file.Path;
import java.util.regex.Matcher;
import java.util.regex.Pattern;

/** The calls that README.md shows, all on one object, and the calls that it names. */
final class ReadmeTest {
    private static final String MADE = "MarkedCurves desk = new MarkedCurves();";
    private static final Pattern BLOCK = Pattern.compile("(?s)```java\n(.*?)```");
    private static final Pattern CALL =
        Pattern.compile("desk\\.(\\w+)\\(([^)]*)\\); +// (-?\\w+)(: .+)?");

    private final Check check;
    private final MarkedCurves desk = new MarkedCurves();

    private ReadmeTest(Check check) {
        this.check = check;
    }

    static void run(Check check, Path readme) throws IOException, ReflectiveOperationException {
        ReadmeTest test = new ReadmeTest(check);
        String page = Files.readString(readme, StandardCharsets.UTF_8);
        check.promise(1);
        Matcher block = BLOCK.matcher(page);
        check.holds("README.md shows calls", page.contains(MADE));
        while (block.find()) {
            for (String line : block.group(1).split("\n")) {
                test.line(line);
            }
        }
        test.namesAllCalls(page);
    }

    private void line(String line) throws ReflectiveOperationException {
        if (line.equals(MADE)) {
            return;
        }
        Matcher call = CALL.matcher(line);
        boolean told = call.matches();
        check.holds("README.md tells an answer: " + line, told);
        if (told) {
            check.due("README.md: " + line, answer(call.group(1), call.group(2)), due(call.group(3)));
        }
    }

    private long answer(String name, String numbers) throws ReflectiveOperationException {
        String[] words = numbers.isEmpty() ? new String[0] : numbers.split(", ");
        Class<?>[] types = new Class<?>[words.length];
        Object[] arguments = new Object[words.length];
        for (int i = 0; i < words.length; i++) {
            types[i] = int.class;
            arguments[i] = Integer.decode(words[i]);
        }
        Method method = MarkedCurves.class.getMethod(name, types);
        return ((Number) method.invoke(desk, arguments)).longValue();
    }

    /** An answer is told as a number or by the name of a constant. */
    private static long due(String word) throws ReflectiveOperationException {
        if (word.matches("-?\\d+")) {
            return Long.parseLong(word);
        }
        return ((Number) MarkedCurves.class.getField(word).get(null)).longValue();
    }

    private void namesAllCalls(String page) {
        for (Method method : MarkedCurves.class.getDeclaredMethods()) {
            if (Modifier.isPublic(method.getModifiers())) {
                check.holds("README.md names " + method.getName(),
                    page.contains("`" + method.getName() + "`"));
            }
        }
    }
}
