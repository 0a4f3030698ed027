import java.io.IOException;
import java.lang.reflect.Method;
import java.lang.reflect.Modifier;
import java.nio.file.Files;
import java.nio.file.Path;
import java.util.regex.Matcher;
import java.util.regex.Pattern;

/** What README.md says of the use holds: its example answers as told, and it tells of each call. */
public final class ReadmeTest {
    private static final Pattern EXAMPLE = Pattern.compile("(?s)```java\n(.*?)```");
    private static final Pattern TEXT = Pattern.compile("\"([^\"]*)\"\\.toCharArray");
    private static final Pattern CALL = Pattern.compile("lace\\.(\\w+)\\(([^)]*)\\); +// (-?\\d+): ");

    public static void main(String[] args) throws IOException {
        String readme = Files.readString(Path.of("README.md"));
        example(readme);
        allCalls(readme);
        Due.end();
    }

    private static void example(String readme) {
        Matcher block = EXAMPLE.matcher(readme);
        Matcher text = TEXT.matcher(readme);
        Due.is("there is an example with a text", block.find() && text.find() ? 1 : 0, 1);
        StringBuilder story = new StringBuilder("+'" + text.group(1) + "'");
        Matcher call = CALL.matcher(block.group(1));
        int calls = 0;
        while (call.find()) {
            String numbers = call.group(2).replace("LaceLines.", "").replace(",", "");
            story.append("|" + call.group(1) + " " + numbers + " = " + call.group(3));
            calls++;
        }
        int lines = block.group(1).split("// ").length - 1;
        Due.is("each line with an answer is a call", calls, lines);
        Edge.run("README.md", story.toString());
    }

    private static void allCalls(String readme) {
        for (Method m : LaceLines.class.getDeclaredMethods()) {
            if (Modifier.isPublic(m.getModifiers())) {
                Matcher row = Pattern.compile("\\| `" + m.getName() + "\\(([^)]*)\\)` \\|").matcher(readme);
                int names = !row.find() ? -1 : row.group(1).isEmpty() ? 0 : row.group(1).split(",").length;
                Due.is("README.md tells of " + m.getName(), names, m.getParameterCount());
            }
        }
    }
}
