import java.io.IOException;
import java.lang.reflect.Method;
import java.nio.charset.StandardCharsets;
import java.nio.file.Files;
import java.nio.file.Path;
import java.util.regex.Matcher;
import java.util.regex.Pattern;

/** README.md tells calls on one object, each with what it answers: they are made here, in their order. */
public final class ReadmeTest {
    private static final Pattern CALL = Pattern.compile("(?m)^ +drawer\\.(\\w+)\\(([^)]*)\\); +// (-?\\d+)\\b");
    private static final Check CHECK = new Check();

    public static void main(String[] args) throws IOException, ReflectiveOperationException {
        CHECK.about("README.md");
        Matcher told = CALL.matcher(Files.readString(Path.of("README.md"), StandardCharsets.UTF_8));
        TwoGoodOfEight drawer = new TwoGoodOfEight();
        int calls = 0;
        while (told.find()) {
            CHECK.due(told.group(1) + "(" + told.group(2) + ")",
                answer(drawer, told.group(1), told.group(2)), Long.parseLong(told.group(3)));
            calls++;
        }
        CHECK.holds("calls are told", calls >= 5);
        CHECK.close();
    }

    private static long answer(TwoGoodOfEight drawer, String name, String arguments) throws ReflectiveOperationException {
        String[] texts = arguments.isEmpty() ? new String[0] : arguments.split(", ");
        Class<?>[] types = new Class<?>[texts.length];
        Object[] numbers = new Object[texts.length];
        for (int i = 0; i < texts.length; i++) {
            types[i] = int.class;
            numbers[i] = texts[i].startsWith("0b") ? Integer.parseInt(texts[i].substring(2), 2) : Integer.parseInt(texts[i]);
        }
        Method method = TwoGoodOfEight.class.getMethod(name, types);
        return ((Number) method.invoke(drawer, numbers)).longValue();
    }
}
