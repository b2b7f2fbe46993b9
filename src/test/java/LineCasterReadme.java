import java.io.IOException;
import java.lang.reflect.Method;
import java.nio.file.Files;
import java.nio.file.Path;
import java.util.regex.Matcher;
import java.util.regex.Pattern;

/** The calls that README.md shows are run as they stand there: each answers what is written behind it. */
public final class LineCasterReadme extends Checks {
    private static final Pattern CALL = Pattern.compile("caster\\.(\\w+)\\(([^)]*)\\);\\s*// (-?\\d+).*");
    private static final int SHOWN_AT_LEAST = 12;

    public static void main(String[] args) throws IOException, ReflectiveOperationException {
        under("README.md");
        LineCaster caster = new LineCaster();
        boolean inside = false;
        int shown = 0;
        for (String line : Files.readAllLines(Path.of("README.md"))) {
            if (line.startsWith("```")) {
                inside = line.equals("```java");
            } else if (inside && line.startsWith("caster.")) {
                runShown(caster, line);
                shown++;
            }
        }
        if (shown < SHOWN_AT_LEAST) fault("only " + shown + " calls are shown");
        end("README.md shows what the class answers");
    }

    private static void runShown(LineCaster caster, String line) throws ReflectiveOperationException {
        Matcher m = CALL.matcher(line);
        if (!m.matches()) {
            fault("not a call with its answer: " + line);
            return;
        }
        String[] texts = m.group(2).isEmpty() ? new String[0] : m.group(2).split(", ");
        due(line, Integer.parseInt(m.group(3)), call(caster, m.group(1), texts));
    }

    private static int call(LineCaster caster, String name, String[] texts) throws ReflectiveOperationException {
        for (Method method : LineCaster.class.getMethods()) {
            if (!method.getName().equals(name) || method.getParameterCount() != texts.length) continue;
            Object[] numbers = new Object[texts.length];
            for (int i = 0; i < numbers.length; i++) numbers[i] = number(texts[i], method.getParameterTypes()[i]);
            return (int) method.invoke(caster, numbers);
        }
        throw new NoSuchMethodException(name);
    }

    private static Object number(String text, Class<?> type) {
        long value = Long.decode(text.endsWith("L") ? text.substring(0, text.length() - 1) : text);
        return type == long.class ? (Object) value : (Object) (int) value;
    }
}
