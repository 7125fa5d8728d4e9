import java.io.IOException;
import java.lang.reflect.Method;
import java.lang.reflect.Modifier;
import java.nio.file.Files;
import java.nio.file.Path;
import java.util.ArrayList;
import java.util.List;
import java.util.regex.Matcher;
import java.util.regex.Pattern;

/** README.md, read from the directory that .ci/run works in: its example holds, and it names every call. */
public final class ReadmeTest {
    private static final Pattern CALL = Pattern.compile("text\\.(\\w+)\\((.*)\\); +// (-?\\d+|'.'): (.*)");
    private static final Pattern SHOWN = Pattern.compile("replica (\\d) shows \"(\\w*)\"");

    public static void main(String[] args) throws IOException, ReflectiveOperationException {
        String readme = Files.readString(Path.of("README.md"));
        theExampleHolds(readme);
        everyCallIsNamed(readme);
        Check.end();
    }

    private static void theExampleHolds(String readme) throws ReflectiveOperationException {
        TextReplica text = new TextReplica();
        int calls = 0;
        for (String line : readme.split("\n")) {
            Matcher call = CALL.matcher(line);
            Check.due("lines with a call that can't be read", line.startsWith("text.") && !call.matches() ? 1 : 0, 0);
            if (call.matches()) {
                calls++;
                Check.due(line, answer(text, call.group(1), call.group(2)), number(call.group(3)));
                theTextIsShown(line, text, call.group(4));
            }
        }
        Check.due("whether the example was found", calls > 0 ? 1 : 0, 1);
    }

    private static int answer(TextReplica text, String name, String list) throws ReflectiveOperationException {
        List<Object> values = new ArrayList<>();
        for (String value : list.split(", ")) {
            values.add(number(value));
        }
        for (Method method : TextReplica.class.getMethods()) {
            if (method.getName().equals(name) && method.getParameterCount() == values.size()) {
                return (int) method.invoke(text, values.toArray());
            }
        }
        throw new NoSuchMethodException(name);
    }

    private static int number(String value) {
        return value.startsWith("'") ? value.charAt(1) : Integer.parseInt(value);
    }

    private static void theTextIsShown(String line, TextReplica text, String remark) {
        Matcher shown = SHOWN.matcher(remark);
        if (shown.find()) {
            int replica = Integer.parseInt(shown.group(1));
            StringBuilder letters = new StringBuilder();
            for (int place = 0; place < text.length(replica); place++) {
                letters.append((char) text.letter(replica, place));
            }
            Check.due("the text behind " + line, letters.toString(), shown.group(2));
        }
    }

    private static void everyCallIsNamed(String readme) {
        for (Method method : TextReplica.class.getDeclaredMethods()) {
            if (Modifier.isPublic(method.getModifiers())) {
                String row = "| `" + method.getName() + "(";
                Check.due("whether a row of the table begins with " + row, readme.contains(row) ? 1 : 0, 1);
            }
        }
    }
}
