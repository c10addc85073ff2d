import java.io.IOException;
import java.lang.reflect.Method;
import java.lang.reflect.Modifier;
import java.nio.file.Files;
import java.nio.file.Path;
import java.util.HashMap;
import java.util.Map;
import java.util.Set;
import java.util.TreeSet;
import java.util.regex.Matcher;
import java.util.regex.Pattern;

/** README.md tells how the class is used: each call in it answers what is written behind it, and none is missing. */
public final class ReadmeTest {
    private static final Path README = Path.of("README.md");
    private static final String MADE = "TinHouse house = new TinHouse();";
    private static final Pattern CALL =
            Pattern.compile("(?:(?:int|long) (\\w+) = )?house\\.(\\w+)\\((.*)\\); +// (-?\\d+)(?::.*)?");
    private static final Pattern NAMED = Pattern.compile("`(\\w+)`");
    private static final Check CHECK = new Check("ReadmeTest");

    private final TinHouse house = new TinHouse();
    private final Map<String, Long> told = new HashMap<>();

    public static void main(String[] args) throws IOException {
        ReadmeTest test = new ReadmeTest();
        Set<String> missing = calls();
        boolean isJava = false;
        for (String line : Files.readAllLines(README)) {
            isJava = line.startsWith("```") ? line.equals("```java") : isJava;
            if (isJava && !line.startsWith("```") && !line.equals(MADE)) {
                test.ask(line);
            }
            Matcher named = NAMED.matcher(line);
            while (line.startsWith("|") && named.find()) {
                missing.remove(named.group(1));
            }
        }
        CHECK.due("calls that no row of README.md names: " + missing, missing.size(), 0);
        CHECK.end();
    }

    private static Set<String> calls() {
        Set<String> names = new TreeSet<>();
        for (Method method : TinHouse.class.getDeclaredMethods()) {
            if (Modifier.isPublic(method.getModifiers())) {
                names.add(method.getName());
            }
        }
        return names;
    }

    /** A line as it stands there, with the answer that is written behind it. */
    private void ask(String line) {
        Matcher call = CALL.matcher(line);
        if (!call.matches()) {
            throw new IllegalStateException("README.md: neither a call nor its answer: " + line);
        }
        String[] written = call.group(3).isEmpty() ? new String[0] : call.group(3).split(", ");
        long[] numbers = new long[written.length];
        for (int i = 0; i < numbers.length; i++) {
            numbers[i] = number(written[i]);
        }
        long answer = Calls.ask(house, call.group(2), numbers);
        CHECK.due(line, answer, Long.parseLong(call.group(4)));
        if (call.group(1) != null) {
            told.put(call.group(1), answer);
        }
    }

    private long number(String written) {
        if (written.startsWith("'")) {
            return written.charAt(1);
        }
        return told.containsKey(written) ? told.get(written) : Long.parseLong(written);
    }
}
