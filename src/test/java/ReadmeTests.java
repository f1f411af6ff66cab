import java.io.IOException;
import java.lang.reflect.Method;
import java.nio.file.Files;
import java.nio.file.Path;
import java.util.Arrays;
import java.util.regex.Matcher;
import java.util.regex.Pattern;

/** The examples in README.md: the word behind // is what the call answers. */
public final class ReadmeTests {
    private static final Check CHECK = new Check("ReadmeTests");
    private static final String FIRST_LINE = "LittleCompiler x = new LittleCompiler();";
    private static final Pattern CALL = Pattern.compile("x\\.(\\w+)\\(([-0-9, ]*)\\);( +// ([-\\w]+).*)?");

    private static LittleCompiler x;
    private static int calls;

    public static void main(String[] args) throws IOException, ReflectiveOperationException {
        boolean inside = false;
        for (String line : Files.readAllLines(Path.of("README.md"))) {
            if (line.startsWith("```")) {
                inside = line.equals("```java");
            } else if (inside) {
                follow(line);
            }
        }
        CHECK.holds("there are examples", calls > 30);
        CHECK.finish();
    }

    private static void follow(String line) throws ReflectiveOperationException {
        if (line.equals(FIRST_LINE)) {
            x = new LittleCompiler();
            return;
        }
        Matcher call = CALL.matcher(line);
        boolean clear = line.equals("x.clear();");
        CHECK.holds("a call with its answer: " + line, call.matches() && (clear || call.group(4) != null));
        if (!call.matches()) {
            return;
        }
        Object answer = answer(call.group(1), call.group(2));
        if (!clear) {
            CHECK.due(line, (Integer) answer, meant(call.group(4)));
        }
        calls++;
    }

    private static Object answer(String name, String list) throws ReflectiveOperationException {
        String[] parts = list.isEmpty() ? new String[0] : list.split(", ");
        Class<?>[] types = new Class<?>[parts.length];
        Arrays.fill(types, int.class);
        Object[] arguments = new Object[parts.length];
        for (int i = 0; i < parts.length; i++) {
            arguments[i] = Integer.valueOf(parts[i]);
        }
        Method method = LittleCompiler.class.getMethod(name, types);
        return method.invoke(x, arguments);
    }

    private static int meant(String word) throws ReflectiveOperationException {
        boolean number = word.matches("-?[0-9]+");
        return number ? Integer.parseInt(word) : LittleCompiler.class.getField(word).getInt(null);
    }
}
