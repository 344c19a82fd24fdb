import java.io.IOException;
import java.lang.reflect.InvocationTargetException;
import java.lang.reflect.Method;
import java.nio.file.Files;
import java.nio.file.Paths;
import java.util.List;
import java.util.NoSuchElementException;
import java.util.regex.Matcher;
import java.util.regex.Pattern;

/** That each call of README.md answers what stands behind it, all on one object, in their order. */
public final class ReadmeTest {
    private static final Pattern CALL = Pattern.compile("x\\.(\\w+)\\((.*)\\); +// (-?\\d+|true|false|throws): .*");

    private static String answer(EndSums x, String name, String told) throws IllegalAccessException {
        String[] words = told.isEmpty() ? new String[0] : told.split(", ");
        Object[] numbers = new Object[words.length];
        for (int i = 0; i < words.length; i++) {
            numbers[i] = Integer.decode(words[i]);
        }
        for (Method m : EndSums.class.getMethods()) {
            if (m.getName().equals(name) && m.getParameterCount() == numbers.length) {
                try {
                    return m.invoke(x, numbers).toString();
                } catch (InvocationTargetException e) {
                    return e.getCause() instanceof NoSuchElementException ? "throws" : e.getCause().toString();
                }
            }
        }
        return "no such call";
    }

    public static void main(String[] args) throws IOException, IllegalAccessException {
        Check check = new Check();
        EndSums x = new EndSums();
        List<String> lines = Files.readAllLines(Paths.get("README.md"));
        int calls = 0;
        for (String line : lines) {
            Matcher m = CALL.matcher(line);
            if (m.matches()) {
                calls++;
                String got = answer(x, m.group(1), m.group(2));
                check.due(line + " (answered " + got + ")", got.equals(m.group(3)), true);
            } else {
                check.due("a call that can't be read: " + line, line.startsWith("x."), false);
            }
        }
        check.due("calls that README.md has", calls > 20, true);
        check.close("ReadmeTest");
    }
}
