import java.io.IOException;
import java.lang.reflect.Method;
import java.lang.reflect.Modifier;
import java.nio.file.Files;
import java.nio.file.Path;
import java.util.regex.Matcher;
import java.util.regex.Pattern;

/** The examples of README.md: each call that tells its answer is made, and every call of the face is named. */
public final class ReadmeTest {
    private static final Pattern NEW = Pattern.compile("ChoiceBook x = new ChoiceBook\\(\\);");
    private static final Pattern TELL = Pattern.compile("tell\\(x, \"([^\"]*)\"\\);");
    private static final Pattern CALL = Pattern.compile("x\\.(\\w+)\\(([^)]*)\\);\\s*// (-?\\d+)(:.*)?");

    public static void main(String[] args) throws IOException, ReflectiveOperationException {
        String readme = Files.readString(Path.of("README.md"));
        examples(readme.split("\n"));
        names(readme);
        Check.end();
    }

    private static void examples(String[] lines) throws ReflectiveOperationException {
        ChoiceBook x = new ChoiceBook();
        int calls = 0;
        for (String line : lines) {
            Matcher tell = TELL.matcher(line);
            Matcher call = CALL.matcher(line);
            if (NEW.matcher(line).matches()) {
                x = new ChoiceBook();
            } else if (tell.matches()) {
                Check.feed(x, tell.group(1));
            } else if (call.matches()) {
                calls++;
                Check.due(line, answer(x, call.group(1), call.group(2)), Integer.parseInt(call.group(3)));
            } else {
                Check.due("a call without its answer: " + line, line.startsWith("x.") ? 1 : 0, 0);
            }
        }
        Check.due("README.md has examples", calls > 30 ? 1 : 0, 1);
    }

    private static int answer(ChoiceBook x, String name, String list) throws ReflectiveOperationException {
        String[] told = list.isEmpty() ? new String[0] : list.split(", ");
        for (Method m : ChoiceBook.class.getMethods()) {
            if (m.getName().equals(name) && m.getParameterCount() == told.length) {
                Object[] values = new Object[told.length];
                for (int i = 0; i < told.length; i++) {
                    values[i] = Integer.parseInt(told[i]);
                }
                return (Integer) m.invoke(x, values);
            }
        }
        throw new NoSuchMethodException(name);
    }

    private static void names(String readme) {
        for (Method m : ChoiceBook.class.getDeclaredMethods()) {
            if (Modifier.isPublic(m.getModifiers())) {
                Check.due("README.md names " + m.getName(), readme.contains("`" + m.getName() + "`") ? 1 : 0, 1);
            }
        }
    }
}
