import java.io.IOException;
import java.lang.reflect.Method;
import java.nio.file.Files;
import java.nio.file.Path;
import java.util.regex.Matcher;
import java.util.regex.Pattern;

/** The examples of README.md: each call's comment begins with the answer that is due. */
public final class ReadmeTest {
    private static final Pattern MADE =
            Pattern.compile("WeightedReader \\w = new WeightedReader\\(\\);");
    private static final Pattern CALL =
            Pattern.compile("\\w\\.(\\w+)\\(([^)]*)\\); *// (-?\\d+)\\b.*");

    public static void main(String[] args) throws IOException, ReflectiveOperationException {
        Due due = new Due("ReadmeTest");
        WeightedReader reader = null;
        boolean inExample = false;
        for (String line : Files.readAllLines(Path.of("README.md"))) {
            if (line.startsWith("```")) {
                inExample = line.equals("```java");
            } else if (inExample && MADE.matcher(line).matches()) {
                reader = new WeightedReader();
            } else if (inExample) {
                Matcher call = CALL.matcher(line);
                boolean told = call.matches();
                due.due("tells an answer: " + line, told ? 1 : 0, 1);
                if (told) {
                    int got = answer(reader, call.group(1), call.group(2));
                    due.due(line, got, number(call.group(3)));
                }
            }
        }
        due.finish();
    }

    private static int answer(WeightedReader reader, String name, String list)
            throws ReflectiveOperationException {
        String[] words = list.isEmpty() ? new String[0] : list.split(", ");
        Class<?>[] types = new Class<?>[words.length];
        Object[] arguments = new Object[words.length];
        for (int k = 0; k < words.length; k++) {
            types[k] = int.class;
            arguments[k] = number(words[k]);
        }
        Method method = WeightedReader.class.getMethod(name, types);
        return (int) method.invoke(reader, arguments);
    }

    private static int number(String word) {
        return Integer.parseInt(word);
    }
}
