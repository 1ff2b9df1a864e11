import java.io.IOException;
import java.lang.reflect.Method;
import java.lang.reflect.Modifier;
import java.nio.file.Files;
import java.nio.file.Path;
import java.util.ArrayList;
import java.util.Arrays;
import java.util.List;
import java.util.Set;
import java.util.TreeSet;
import java.util.regex.Matcher;
import java.util.regex.Pattern;

/** Makes the calls that README.md shows, one after the other, and compares what it says they answer. */
public final class ReadmeTests extends Checks {
    private static final String NEW_OBJECT = "GroupChangelog log = new GroupChangelog();";
    /** A call, and behind it its answer, as a number or a constant of the class, maybe with a word on it. */
    private static final Pattern CALL =
        Pattern.compile("log\\.(\\w+)\\(([-\\d, ]*)\\);\\s+// (-?\\d+|GroupChangelog\\.\\w+)(: .+)?");

    private static List<String> linesOfCode() throws IOException {
        List<String> code = new ArrayList<>();
        boolean inCode = false;
        for (String line : Files.readAllLines(Path.of("README.md"))) {
            if (line.startsWith("```")) {
                inCode = line.equals("```java");
            } else if (inCode && !line.isBlank()) {
                code.add(line);
            }
        }
        return code;
    }

    private static int answer(GroupChangelog log, String name, String args) throws ReflectiveOperationException {
        Object[] numbers = args.isBlank() ? new Object[0]
            : Arrays.stream(args.split(",")).map(number -> Integer.valueOf(number.strip())).toArray();
        Class<?>[] types = new Class<?>[numbers.length];
        Arrays.fill(types, int.class);
        return (int) GroupChangelog.class.getMethod(name, types).invoke(log, numbers);
    }

    private static int said(String answer) throws ReflectiveOperationException {
        String prefix = "GroupChangelog.";
        return answer.startsWith(prefix)
            ? GroupChangelog.class.getField(answer.substring(prefix.length())).getInt(null)
            : Integer.parseInt(answer);
    }

    private static Set<String> callsOfTheFace() {
        Set<String> calls = new TreeSet<>();
        for (Method method : GroupChangelog.class.getDeclaredMethods()) {
            if (Modifier.isPublic(method.getModifiers())) {
                calls.add(method.getName());
            }
        }
        return calls;
    }

    public static void main(String[] args) throws IOException, ReflectiveOperationException {
        GroupChangelog log = null;
        Set<String> notShown = callsOfTheFace();
        for (String line : linesOfCode()) {
            Matcher call = CALL.matcher(line);
            if (line.equals(NEW_OBJECT)) {
                log = new GroupChangelog();
            } else if (log != null && call.matches()) {
                due(line, answer(log, call.group(1), call.group(2)), said(call.group(3)));
                notShown.remove(call.group(1));
            } else {
                wrong("README.md shows a line that is not a call with its answer: " + line);
            }
        }
        due("calls that README.md does not show, " + notShown, notShown.size(), 0);
        end();
    }
}
