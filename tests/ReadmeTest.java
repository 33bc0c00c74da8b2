import java.lang.reflect.Method;
import java.nio.file.Files;
import java.nio.file.Path;
import java.util.regex.Matcher;
import java.util.regex.Pattern;

/** The calls that README.md shows answer what it says. */
public final class ReadmeTest {
    private static final Pattern CALL = Pattern.compile("x\\.(\\w+)\\((.*)\\); *// (-?\\w+).*");

    public static void main(String[] args) throws Exception {
        String[] parts = Files.readString(Path.of("README.md")).split("```");
        Check.that("README.md shows calls", parts.length > 1);
        TollWays x = new TollWays();
        int shown = 0;
        for (String line : parts[1].split("\n")) {
            Matcher call = CALL.matcher(line);
            if (call.matches()) {
                long due = call.group(3).equals("NO") ? Check.NO : Long.parseLong(call.group(3));
                Check.due(line, due, answer(x, call.group(1), call.group(2)));
                shown++;
            }
        }
        Check.due("lines that are no calls", 2, parts[1].strip().split("\n").length - shown);
        Check.finish();
    }

    private static long answer(TollWays x, String name, String words) throws Exception {
        for (Method m : TollWays.class.getMethods()) {
            if (m.getName().equals(name)) {
                return ((Number) m.invoke(x, parameters(m, words))).longValue();
            }
        }
        throw new NoSuchMethodException(name);
    }

    private static Object[] parameters(Method m, String words) {
        String[] numbers = words.split(", ");
        Object[] found = new Object[m.getParameterCount()];
        for (int k = 0; k < found.length; k++) {
            long number = Long.parseLong(numbers[k]);
            if (m.getParameterTypes()[k] == int.class) {
                found[k] = (int) number;
            } else {
                found[k] = number;
            }
        }
        return found;
    }
}
