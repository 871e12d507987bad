import java.lang.reflect.Method;
import java.nio.file.Files;
import java.nio.file.Path;
import java.util.regex.Matcher;
import java.util.regex.Pattern;

/** The example of README.md, call by call: the number behind a call is its answer. */
public final class ReadmeTest {
    private static final int LEAST_CALLS = 15;
    private static final Pattern STREET = Pattern.compile("String street = \"([^\"]*)\";.*");
    private static final Pattern CALL = Pattern.compile("x\\.(\\w+)\\(([-0-9, ]*)\\); *// (-?\\d+).*");

    public static void main(String[] args) throws Exception {
        ColdShares x = null;
        int calls = 0;
        for (String line : Files.readAllLines(Path.of("README.md"))) {
            Matcher street = STREET.matcher(line);
            Matcher call = CALL.matcher(line);
            if (street.matches()) {
                x = new ColdShares();
                Edges.write(x, 0, street.group(1));
            } else if (call.matches()) {
                calls++;
                Edges.due(line, answer(x, call.group(1), call.group(2)), Long.parseLong(call.group(3)));
            }
        }
        Edges.due("README.md has an example", calls >= LEAST_CALLS ? 1 : 0, 1);
        Edges.end();
    }

    private static long answer(ColdShares x, String name, String numbers) throws Exception {
        String[] told = numbers.isEmpty() ? new String[0] : numbers.split(", *");
        Class<?>[] types = new Class<?>[told.length];
        Object[] arguments = new Object[told.length];
        for (int i = 0; i < told.length; i++) {
            types[i] = int.class;
            arguments[i] = Integer.parseInt(told[i]);
        }
        Method method = ColdShares.class.getMethod(name, types);
        return ((Number) method.invoke(x, arguments)).longValue();
    }
}
