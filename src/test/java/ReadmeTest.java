import java.lang.reflect.Method;
import java.nio.file.Files;
import java.nio.file.Path;
import java.util.Arrays;
import java.util.regex.Matcher;
import java.util.regex.Pattern;

/** README.md shows calls with their answers behind them: one object is called so, line by line. */
public final class ReadmeTest {
    private static final Pattern FED = Pattern.compile("\"([^\"]*)\"\\.toCharArray\\(\\)\\) race\\.feed\\(c\\);");
    private static final Pattern CALLED = Pattern.compile("race\\.(\\w+)\\(([-\\d, ]*)\\);\\s+// (-?\\d+)\\b.*");

    public static void main(String[] args) throws Exception {
        WordRace race = new WordRace();
        int calls = 0;
        for (String line : Files.readAllLines(Path.of("README.md"))) {
            Matcher fed = FED.matcher(line);
            if (fed.find()) Due.feed(race, fed.group(1));
            if (!line.startsWith("race.")) continue;
            Matcher called = CALLED.matcher(line);
            Due.due("README.md tells an answer behind " + line, called.matches() ? 1 : 0, 1);
            if (!called.matches()) continue;
            calls++;
            Due.due(line, answer(race, called.group(1), numbers(called.group(2))), Long.parseLong(called.group(3)));
        }
        Due.due("README.md shows calls", calls > 30 ? 1 : 0, 1);
        Due.end();
    }

    private static Object[] numbers(String text) {
        if (text.isBlank()) return new Object[0];
        String[] parts = text.split(",");
        Object[] numbers = new Object[parts.length];
        for (int i = 0; i < parts.length; i++) numbers[i] = Integer.parseInt(parts[i].trim());
        return numbers;
    }

    private static long answer(WordRace race, String name, Object[] arguments) throws ReflectiveOperationException {
        Class<?>[] types = new Class<?>[arguments.length];
        Arrays.fill(types, int.class);
        Method method = WordRace.class.getMethod(name, types);
        return ((Number) method.invoke(race, arguments)).longValue();
    }
}
