import java.io.IOException;
import java.lang.reflect.Method;
import java.nio.file.Files;
import java.nio.file.Path;
import java.util.Arrays;
import java.util.List;
import java.util.Set;
import java.util.TreeSet;
import java.util.regex.Matcher;
import java.util.regex.Pattern;

/** The example in README.md is true: it is read and called, so that it can't drift from the class. */
public final class ReadmeTest {
    private static final String FIRST_LINE = "RunVectors x = new RunVectors();";
    private static final Pattern CALL = Pattern.compile("x\\.(\\w+)\\(([-\\d, ]+)\\); +// (-?\\d+)(:.*)?");
    private static final Pattern CELLS = Pattern.compile("vector (\\d) is ((?:-?\\d+ ?)+|empty)");

    private final Checks checks = new Checks();
    private final RunVectors x = new RunVectors();
    private final Set<String> called = new TreeSet<>();

    public static void main(String[] args) throws IOException, ReflectiveOperationException {
        new ReadmeTest().run();
    }

    private void run() throws IOException, ReflectiveOperationException {
        List<String> readme = Files.readAllLines(Path.of("README.md"));
        int start = readme.indexOf("```java");
        int end = start + readme.subList(start, readme.size()).indexOf("```");
        List<String> example = readme.subList(start + 1, end);
        if (!example.get(0).equals(FIRST_LINE)) {
            checks.say("the example does not begin with " + FIRST_LINE);
        }
        for (String line : example.subList(1, example.size())) {
            play(line);
        }
        for (Method each : RunVectors.class.getMethods()) {
            if (each.getDeclaringClass() == RunVectors.class && !called.contains(each.getName())) {
                checks.say("the example does not call " + each.getName());
            }
        }
        checks.end();
    }

    private void play(String line) throws ReflectiveOperationException {
        Matcher call = CALL.matcher(line);
        if (!call.matches()) {
            checks.say("not a call with its answer: " + line);
            return;
        }
        called.add(call.group(1));
        Object[] numbers = Arrays.stream(call.group(2).split(", ")).map(Integer::valueOf).toArray();
        Class<?>[] types = new Class<?>[numbers.length];
        Arrays.fill(types, int.class);
        Object answer = RunVectors.class.getMethod(call.group(1), types).invoke(x, numbers);
        checks.due(line, ((Number) answer).longValue(), Long.parseLong(call.group(3)));
        if (call.group(4) != null) {
            readBack(line, call.group(4));
        }
    }

    private void readBack(String line, String comment) {
        Matcher said = CELLS.matcher(comment);
        while (said.find()) {
            String row = said.group(2).equals("empty") ? "" : said.group(2).strip();
            String got = String.join(" ", Arrays.stream(Checks.cells(x, Integer.parseInt(said.group(1))))
                    .mapToObj(String::valueOf).toList());
            if (!got.equals(row)) {
                checks.say(line + " left " + got);
            }
        }
    }
}
