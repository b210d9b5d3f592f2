import java.io.IOException;
import java.lang.reflect.Method;
import java.nio.file.Files;
import java.nio.file.Path;
import java.util.Arrays;
import java.util.List;
import java.util.regex.Matcher;
import java.util.regex.Pattern;

/** The examples of README.md: each call there has the answer that stands behind it. */
public final class ReadmeTest {
    private static final Pattern CALL = Pattern.compile("g\\.(\\w+)\\(([-\\d, ]*)\\);\\s+// (-?\\d+|[A-Z]+)(:.*)?");
    private static final Pattern TEXT = Pattern.compile("String text = \"(.*)\";.*");
    private static final List<String> PASSED_OVER = List.of("", "}", "for (int i = 0; i < text.length(); i++) {");
    private static final Check c = new Check();
    private static SighGuild g = null;
    private static String text = "";

    public static void main(String[] args) throws IOException, ReflectiveOperationException {
        boolean isJava = false;
        int calls = 0;
        for (String line : Files.readAllLines(Path.of("README.md"))) {
            if (line.startsWith("```")) {
                isJava = line.equals("```java");
            } else if (isJava) {
                calls += heed(line.trim());
            }
        }
        c.due("calls in README.md", calls > 30 ? 1 : 0, 1);
        c.end("ReadmeTest");
    }

    /** How many calls the line makes that have their answers with them. */
    private static int heed(String line) throws ReflectiveOperationException {
        Matcher call = CALL.matcher(line);
        Matcher written = TEXT.matcher(line);
        if (call.matches()) {
            c.due(line, answerOf(call.group(1), call.group(2)), numberOf(call.group(3)));
            return 1;
        }
        if (written.matches()) {
            text = written.group(1);
        } else if (line.equals("SighGuild g = new SighGuild();")) {
            g = new SighGuild();
        } else if (line.equals("g.put(0, i, text.charAt(i));")) {
            for (int i = 0; i < text.length(); i++) {
                c.due(line, g.put(0, i, text.charAt(i)), 1032);
            }
        } else {
            c.due("this line is understood: " + line, PASSED_OVER.contains(line) ? 1 : 0, 1);
        }
        return 0;
    }

    private static long answerOf(String name, String numbers) throws ReflectiveOperationException {
        Object[] all = numbers.isEmpty() ? new Object[0]
                : Arrays.stream(numbers.split(", ")).map(Integer::valueOf).toArray();
        Class<?>[] types = new Class<?>[all.length];
        Arrays.fill(types, int.class);
        Method call = SighGuild.class.getMethod(name, types);
        return ((Number) call.invoke(g, all)).longValue();
    }

    private static long numberOf(String word) throws ReflectiveOperationException {
        return Character.isLetter(word.charAt(0)) ? SighGuild.class.getField(word).getInt(null) : Long.parseLong(word);
    }
}
