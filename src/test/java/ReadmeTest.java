import java.io.IOException;
import java.lang.reflect.Method;
import java.nio.file.Files;
import java.nio.file.Path;
import java.util.regex.Matcher;
import java.util.regex.Pattern;

/** The calls of README.md's example answer what stands behind them there. */
public final class ReadmeTest {
    private static final Path README = Path.of("README.md");
    private static final Pattern CALL = Pattern.compile("x\\.(\\w+)\\(([-0-9, ]*)\\);\\s*(?://\\s*(true|false|-?[0-9]+)\\b.*)?.*");

    public static void main(String[] args) throws IOException, ReflectiveOperationException {
        FrameMachine x = new FrameMachine();
        int answers = 0;
        for (String line : Files.readAllLines(README)) {
            Matcher call = CALL.matcher(line);
            if (call.matches()) {
                Object got = answer(x, call.group(1), call.group(2).split(",\\s*"));
                if (call.group(3) != null) {
                    answers++;
                    Rig.due(line + " (it answers " + got + ")", call.group(3).equals(got.toString()), true);
                }
            }
        }
        Rig.due("the example has answers", answers > 3, true);
        Rig.end("ReadmeTest");
    }

    private static Object answer(FrameMachine x, String name, String[] numbers) throws ReflectiveOperationException {
        boolean isBare = numbers.length == 1 && numbers[0].isEmpty();
        Object[] values = new Object[isBare ? 0 : numbers.length];
        Class<?>[] types = new Class<?>[values.length];
        for (int i = 0; i < values.length; i++) {
            values[i] = Integer.parseInt(numbers[i].trim());
            types[i] = int.class;
        }
        Method method = FrameMachine.class.getMethod(name, types);
        return method.invoke(x, values);
    }
}
