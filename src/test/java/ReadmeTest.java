import java.lang.reflect.Method;
import java.nio.file.Files;
import java.nio.file.Path;
import java.util.Arrays;
import java.util.List;
import java.util.regex.Matcher;
import java.util.regex.Pattern;

/** The example in README.md answers what README.md says it does. */
public final class ReadmeTest {
    private static final String FIRST_LINE = "OptimisticSim sim = new OptimisticSim();";
    private static final Pattern CALL = Pattern.compile("sim\\.(\\w+)\\(([-0-9, ]*)\\);\\s*(?://\\s*(-?\\d+)(?::.*)?)?");

    public static void main(String[] args) throws Exception {
        List<String> lines = Files.readAllLines(Path.of("README.md"));
        int first = lines.indexOf(FIRST_LINE);
        Expect.same("README.md has an example", first >= 0, true);
        OptimisticSim sim = new OptimisticSim();
        for (int i = first + 1; i < lines.size() && !lines.get(i).equals("```"); i++) {
            call(sim, lines.get(i));
        }
        Expect.end("ReadmeTest");
    }

    private static void call(OptimisticSim sim, String line) throws Exception {
        Matcher matcher = CALL.matcher(line);
        boolean understood = matcher.matches();
        Expect.same("'" + line + "' is a call with its answer", understood, true);
        if (!understood) {
            return;
        }
        Object[] numbers = numbers(matcher.group(2));
        Class<?>[] types = new Class<?>[numbers.length];
        Arrays.fill(types, int.class);
        Method method = OptimisticSim.class.getMethod(matcher.group(1), types);
        String due = matcher.group(3);
        Expect.same(line, method.invoke(sim, numbers), due == null ? null : Integer.valueOf(due));
    }

    private static Object[] numbers(String text) {
        if (text.isBlank()) {
            return new Object[0];
        }
        String[] parts = text.split(",");
        Object[] numbers = new Object[parts.length];
        for (int i = 0; i < parts.length; i++) {
            numbers[i] = Integer.valueOf(parts[i].trim());
        }
        return numbers;
    }
}
