import java.io.IOException;
import java.lang.reflect.Method;
import java.nio.file.Files;
import java.nio.file.Path;
import java.util.Arrays;
import java.util.regex.Matcher;
import java.util.regex.Pattern;

/** The example in README.md: every call there answers what stands behind it. */
public final class ReadmeTest {
    private static final Pattern MAKING = Pattern.compile("ArcTape tape = new ArcTape\\((\\d+)\\);");
    private static final Pattern CALL = Pattern.compile("tape\\.(\\w+)\\(([^)]*)\\); +// (true|false|-?\\d+)(:.*)?");
    private static final Check CHECK = new Check();

    public static void main(String[] args) throws IOException, ReflectiveOperationException {
        ArcTape tape = null;
        int calls = 0;
        for (String line : Files.readAllLines(Path.of("README.md"))) {
            Matcher making = MAKING.matcher(line);
            Matcher call = CALL.matcher(line);
            if (making.matches()) {
                tape = new ArcTape(Integer.parseInt(making.group(1)));
            } else if (call.matches()) {
                CHECK.due(line, answer(tape, call.group(1), call.group(2)), call.group(3));
                calls++;
            } else {
                CHECK.due("a call without an answer: " + line, line.startsWith("tape."), false);
            }
        }
        CHECK.due("README.md has an example", calls > 0, true);
        CHECK.finish();
    }

    private static String answer(ArcTape tape, String name, String arguments) throws ReflectiveOperationException {
        Object[] numbers = arguments.isEmpty() ? new Object[0] : Arrays.stream(arguments.split(", ")).map(Integer::valueOf).toArray();
        Class<?>[] types = new Class<?>[numbers.length];
        Arrays.fill(types, int.class);
        Method method = ArcTape.class.getMethod(name, types);
        return String.valueOf(method.invoke(tape, numbers));
    }
}
