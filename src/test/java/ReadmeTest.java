import java.lang.reflect.Method;
import java.nio.file.Files;
import java.nio.file.Path;
import java.util.Arrays;
import java.util.regex.Matcher;
import java.util.regex.Pattern;

/** Runs the calls that README.md shows, each with the answer that stands behind it. */
public final class ReadmeTest {
    private static final Pattern CALL =
            Pattern.compile("x\\.(\\w+)\\((.*)\\); +// (-?\\d+|NONE|BAD|STATE|FULL)\\b.*");

    public static void main(String[] args) throws Exception {
        CornerHeaps x = new CornerHeaps();
        int shown = 0;
        for (String line : Files.readAllLines(Path.of("README.md"))) {
            if (line.startsWith("x.")) {
                shown++;
                run(x, line);
            }
        }
        Checks.holds("README.md shows calls", shown > 0);
        Checks.finish();
    }

    private static void run(CornerHeaps x, String line) throws Exception {
        Matcher call = CALL.matcher(line);
        if (!call.matches()) {
            Checks.holds("a call and its answer: " + line, false);
            return;
        }
        Object[] arguments = arguments(call.group(2));
        Class<?>[] types = new Class<?>[arguments.length];
        Arrays.fill(types, int.class);
        Method method = CornerHeaps.class.getMethod(call.group(1), types);
        long got = ((Number) method.invoke(x, arguments)).longValue();
        Checks.due("README.md: " + line, got, answer(call.group(3)));
    }

    private static Object[] arguments(String text) {
        if (text.isEmpty()) {
            return new Object[0];
        }
        String[] parts = text.split(", ");
        Object[] values = new Object[parts.length];
        for (int k = 0; k < parts.length; k++) {
            boolean sign = parts[k].startsWith("'");
            values[k] = sign ? (int) parts[k].charAt(1) : Integer.parseInt(parts[k]);
        }
        return values;
    }

    private static long answer(String text) throws Exception {
        return Character.isLetter(text.charAt(0))
                ? CornerHeaps.class.getField(text).getInt(null)
                : Long.parseLong(text);
    }
}
