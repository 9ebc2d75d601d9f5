import java.io.IOException;
import java.lang.reflect.Method;
import java.nio.file.DirectoryStream;
import java.nio.file.Files;
import java.nio.file.Path;
import java.util.regex.Matcher;
import java.util.regex.Pattern;

/** What README.md says: its calls answer as it tells, and its table names every test. */
public final class ReadmeTest {
    private static final Pattern CALL = Pattern.compile("(?m)^x\\.(\\w+)\\((.*)\\); +// (-?\\w+)");
    private static final Due due = new Due();

    public static void main(String[] args) throws Exception {
        String readme = Files.readString(Path.of("README.md"));
        int lines = everyCallAnswersAsTold(readme);
        due.holds("there are calls", lines > 0);
        due.is("lines that begin with a call", readme.split("(?m)^x\\.", -1).length - 1, lines);
        theTableNamesEveryTest(readme);
        due.end();
    }

    private static int everyCallAnswersAsTold(String readme) throws Exception {
        HostageRound x = new HostageRound();
        Matcher line = CALL.matcher(readme);
        int lines = 0;
        while (line.find()) {
            Method call = named(line.group(1));
            Object answer = call.invoke(x, arguments(call, line.group(2)));
            due.is(line.group(1) + "(" + line.group(2) + ")", ((Number) answer).longValue(), number(line.group(3)));
            lines++;
        }
        return lines;
    }

    private static Method named(String name) {
        for (Method method : HostageRound.class.getMethods()) {
            if (method.getName().equals(name)) {
                return method;
            }
        }
        throw new IllegalArgumentException("README.md calls " + name);
    }

    private static Object[] arguments(Method call, String text) throws Exception {
        String[] words = text.isEmpty() ? new String[0] : text.split(", ");
        Object[] arguments = new Object[words.length];
        for (int i = 0; i < words.length; i++) {
            if (call.getParameterTypes()[i] == boolean.class) {
                arguments[i] = words[i].equals("true");
            } else {
                arguments[i] = words[i].startsWith("'") ? (int) words[i].charAt(1) : (int) number(words[i]);
            }
        }
        return arguments;
    }

    private static long number(String word) throws Exception {
        if (word.matches("-?\\d+")) {
            return Long.parseLong(word);
        }
        return HostageRound.class.getField(word).getLong(null);
    }

    private static void theTableNamesEveryTest(String readme) throws IOException {
        try (DirectoryStream<Path> tests = Files.newDirectoryStream(Path.of("src/test/java"), "*.java")) {
            for (Path test : tests) {
                String name = test.getFileName().toString().replace(".java", "");
                due.holds("a row of " + name, readme.contains("| " + name + " |"));
            }
        }
    }
}
