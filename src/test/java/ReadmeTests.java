import java.lang.reflect.Method;
import java.nio.file.Files;
import java.nio.file.Path;
import java.util.HashMap;
import java.util.Map;
import java.util.regex.Matcher;
import java.util.regex.Pattern;

/** Does the calls that README.md shows: each has to answer the number that its comment begins with. */
final class ReadmeTests {
    private static final Pattern CALL =
            Pattern.compile("int (\\w+) = k\\.(\\w+)\\(([^)]*)\\); +// (-?\\d+): .+");

    private final SequentKernel kernel = new SequentKernel();
    private final Map<String, Integer> answers = new HashMap<>();

    private ReadmeTests() {
    }

    static void all() throws Exception {
        String text = Files.readString(Path.of("README.md"));
        Matcher example = Pattern.compile("```java\n(.*?)```", Pattern.DOTALL).matcher(text);
        Check.yes("README.md shows calls", example.find());
        new ReadmeTests().follow(example.group(1));
        Check.yes("README.md tells the command that runs the tests", text.contains("```sh\n.ci/run\n```"));
        for (Method m : SequentKernel.class.getDeclaredMethods()) {
            if (m.toString().startsWith("public")) {
                Check.yes("README.md tells of " + m.getName(), text.contains("`" + m.getName() + "`"));
            }
        }
    }

    private void follow(String example) throws Exception {
        String[] lines = example.split("\n");
        Check.yes("an object first", lines[0].equals("SequentKernel k = new SequentKernel();"));
        for (int i = 1; i < lines.length; i++) {
            if (!lines[i].isEmpty()) {
                call(lines[i]);
            }
        }
    }

    private void call(String line) throws Exception {
        Matcher parts = CALL.matcher(line);
        boolean read = parts.matches();
        Check.yes("a call with its answer: " + line, read);
        if (!read) {
            return;
        }
        int answer = answer(parts.group(2), parts.group(3).split(", "));
        answers.put(parts.group(1), answer);
        Check.is("README.md: " + line, answer, Integer.parseInt(parts.group(4)));
    }

    private int answer(String name, String[] written) throws Exception {
        int many = written[0].isEmpty() ? 0 : written.length;
        Class<?>[] types = new Class<?>[many];
        Object[] values = new Object[many];
        for (int i = 0; i < many; i++) {
            types[i] = int.class;
            values[i] = answers.containsKey(written[i]) ? answers.get(written[i]) : Integer.valueOf(written[i]);
        }
        return (Integer) SequentKernel.class.getMethod(name, types).invoke(kernel, values);
    }
}
