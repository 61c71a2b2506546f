import java.io.IOException;
import java.nio.file.Files;
import java.nio.file.Path;
import java.util.Arrays;
import java.util.regex.Matcher;
import java.util.regex.Pattern;

/** The example of README.md answers what its comments say. It is run from the folder of README.md. */
public final class ReadmeTest {
    private static final Pattern CALL = Pattern.compile("u\\.(\\w+)\\(([-\\d, ]*)\\); *// (-?\\w+).*");

    public static void main(String[] args) throws IOException, ReflectiveOperationException {
        UndoReader reader = new UndoReader();
        int calls = 0;
        int wrong = 0;
        for (String line : Files.readAllLines(Path.of("README.md"))) {
            if (!line.startsWith("u.")) {
                continue;
            }
            calls++;
            Matcher call = CALL.matcher(line);
            if (!call.matches()) {
                wrong++;
                System.out.println("not a call with its answer: " + line);
                continue;
            }
            int got = answer(reader, call.group(1), call.group(2));
            if (got != due(call.group(3))) {
                wrong++;
                System.out.println("answered " + got + ": " + line);
            }
        }
        // An example that is not found would prove nothing.
        if (calls == 0) {
            wrong++;
            System.out.println("README.md has no calls");
        }
        System.out.println(wrong == 0 ? "the example's answers are as due" : wrong + " lines of the example are wrong");
        if (wrong != 0) {
            System.exit(1);
        }
    }

    private static int answer(UndoReader reader, String name, String list) throws ReflectiveOperationException {
        Object[] arguments = Arrays.stream(list.split(", *")).filter(a -> !a.isEmpty()).map(Integer::valueOf).toArray();
        Class<?>[] types = new Class<?>[arguments.length];
        Arrays.fill(types, int.class);
        return (Integer) UndoReader.class.getMethod(name, types).invoke(reader, arguments);
    }

    /** A number, or the name of a constant. */
    private static int due(String text) throws ReflectiveOperationException {
        return text.matches("-?\\d+") ? Integer.parseInt(text) : UndoReader.class.getField(text).getInt(null);
    }
}
