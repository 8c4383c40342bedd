import java.io.IOException;
import java.lang.reflect.Method;
import java.nio.file.Files;
import java.nio.file.Path;
import java.util.Arrays;
import java.util.Set;
import java.util.TreeSet;
import java.util.regex.Matcher;
import java.util.regex.Pattern;

/** The example in README.md, read from there, so that the two can't part. Run from the project's root. */
public final class ReadmeTest {
    /** A call, its arguments, and the answer that its comment begins with, if it answers one. */
    private static final Pattern ROW = Pattern.compile("x\\.(\\w+)\\(([-\\d, ]*)\\); +// (-?\\d+)?.*");

    private ReadmeTest() {
    }

    public static void main(String[] args) throws IOException, ReflectiveOperationException {
        String example = example();
        SqueezeQueue x = new SqueezeQueue();
        Set<String> seen = new TreeSet<>();
        for (String line : example.split("\n")) {
            if (!line.startsWith("SqueezeQueue x = ")) {
                seen.add(callOf(x, line));
            }
        }
        for (Method method : SqueezeQueue.class.getMethods()) {
            if (method.getDeclaringClass() == SqueezeQueue.class) {
                Check.that("README.md shows " + method.getName(), seen.contains(method.getName()));
            }
        }
        Check.end();
    }

    private static String example() throws IOException {
        String readme = Files.readString(Path.of("README.md"));
        Matcher block = Pattern.compile("(?s)```java\n(.*?)\n```").matcher(readme);
        boolean found = block.find();
        Check.that("README.md has an example", found);
        return found ? block.group(1) : "";
    }

    /** Makes the call that the line shows, looks at its answer, and tells its name. */
    private static String callOf(SqueezeQueue x, String line) throws ReflectiveOperationException {
        Matcher row = ROW.matcher(line);
        if (!row.matches()) {
            Check.that("a call with its answer: " + line, false);
            return "";
        }
        Object[] numbers = Arrays.stream(row.group(2).split(", *"))
            .filter(text -> !text.isEmpty()).map(Integer::valueOf).toArray();
        Class<?>[] types = new Class<?>[numbers.length];
        Arrays.fill(types, int.class);
        Object answer = SqueezeQueue.class.getMethod(row.group(1), types).invoke(x, numbers);
        String told = row.group(3);
        Check.that(line + " (answered " + answer + ")", String.valueOf(answer).equals(String.valueOf(told)));
        return row.group(1);
    }
}
