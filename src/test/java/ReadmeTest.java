import java.lang.reflect.Method;
import java.lang.reflect.Modifier;
import java.nio.file.Files;
import java.nio.file.Path;
import java.util.Arrays;
import java.util.List;
import java.util.Set;
import java.util.TreeSet;
import java.util.regex.Matcher;
import java.util.regex.Pattern;

/** README.md's example, run as it stands there: each call has to answer what is written behind it. */
public final class ReadmeTest {
    private static final Pattern TEXT = Pattern.compile("for \\(char c : \"([^\"]*)\"\\.toCharArray\\(\\)\\) \\{");
    private static final Pattern CALL = Pattern.compile("x\\.(\\w+)\\(([-0-9, ]*)\\);\\s+// (\\w+): .+");
    private static final Set<String> AROUND = Set.of("", "}", "x.write(c);", "RebusSigns x = new RebusSigns();");
    /** What the example leaves to the document. */
    private static final Set<String> LEFT = Set.of("wipe", "carved");

    private static final Check check = new Check();
    private static final RebusSigns x = new RebusSigns();
    private static final Set<String> called = new TreeSet<>();

    public static void main(String[] args) throws Exception {
        String readme = Files.readString(Path.of("README.md"));
        int start = readme.indexOf("```java\n");
        int end = readme.indexOf("```", start + 3);
        check.holds("README.md has an example", start >= 0 && end > start);
        if (start >= 0 && end > start) {
            for (String line : readme.substring(start, end).lines().skip(1).map(String::strip).toList()) {
                run(line);
            }
        }
        lookAtCalls();
        check.finish();
    }

    private static void run(String line) throws Exception {
        Matcher text = TEXT.matcher(line);
        Matcher call = CALL.matcher(line);
        if (text.matches()) {
            for (char c : text.group(1).toCharArray()) {
                x.write(c);
            }
            called.add("write");
        } else if (call.matches()) {
            check.due(line, answer(call.group(1), call.group(2)), number(call.group(3)));
            called.add(call.group(1));
        } else {
            check.holds("a line that is no call: " + line, AROUND.contains(line));
        }
    }

    private static long answer(String name, String arguments) throws Exception {
        Object[] numbers = List.of(arguments.split(",")).stream().map(String::strip).filter(s -> !s.isEmpty())
            .map(Integer::valueOf).toArray();
        Class<?>[] types = new Class<?>[numbers.length];
        Arrays.fill(types, int.class);
        Method method = RebusSigns.class.getMethod(name, types);
        return ((Number) method.invoke(x, numbers)).longValue();
    }

    private static long number(String answer) throws Exception {
        return Character.isDigit(answer.charAt(0)) ? Long.parseLong(answer)
            : RebusSigns.class.getField(answer).getInt(null);
    }

    private static void lookAtCalls() {
        for (Method m : RebusSigns.class.getDeclaredMethods()) {
            if (Modifier.isPublic(m.getModifiers())) {
                check.holds("the example calls " + m.getName(),
                    called.contains(m.getName()) || LEFT.contains(m.getName()));
            }
        }
    }
}
