import java.io.IOException;
import java.lang.reflect.Method;
import java.nio.file.Files;
import java.nio.file.Path;
import java.util.List;
import java.util.regex.Matcher;
import java.util.regex.Pattern;

/** The calls that README.md shows answer what stands behind them. */
public final class ReadmeTest {
    private static final Pattern CALL = Pattern.compile("sea\\.(\\w+)\\(([^)]*)\\);\\s*// (-?\\d+|true|false):.*");

    public static void main(String[] args) throws IOException, ReflectiveOperationException {
        Due due = new Due();
        SandKeepsSea sea = new SandKeepsSea();
        int shown = 0;
        int made = 0;
        List<String> lines = Files.readAllLines(Path.of("README.md"));
        for (String line : lines) {
            shown += line.startsWith("sea.") ? 1 : 0;
            Matcher call = CALL.matcher(line);
            if (call.matches()) {
                made++;
                due.be(line, answer(sea, call.group(1), call.group(2)), call.group(3));
            }
        }
        due.be("calls that could be made", made, shown);
        due.be("calls are shown", shown > 10, true);
        due.end();
    }

    private static String answer(SandKeepsSea sea, String name, String written) throws ReflectiveOperationException {
        String[] parts = written.isEmpty() ? new String[0] : written.split(", ");
        Object[] values = new Object[parts.length];
        Class<?>[] types = new Class<?>[parts.length];
        for (int i = 0; i < parts.length; i++) {
            values[i] = Integer.decode(parts[i]);
            types[i] = int.class;
        }
        Method call = SandKeepsSea.class.getMethod(name, types);
        return String.valueOf(call.invoke(sea, values));
    }
}
