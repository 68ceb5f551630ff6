import java.io.IOException;
import java.lang.reflect.Method;
import java.nio.file.Files;
import java.nio.file.Path;
import java.util.Arrays;
import java.util.List;
import java.util.regex.Matcher;
import java.util.regex.Pattern;
import java.util.stream.Stream;

/** README.md: the answers behind its calls are those of the class, and it names every test. */
public final class ReadmeTest {
    private static final Pattern EXAMPLE = Pattern.compile("(?s)```java\n(.*?)```");
    private static final Pattern LETTERS = Pattern.compile("for \\(char sign : \"([^\"]*)\".*");
    private static final Pattern ASKED = Pattern.compile("isle\\.(\\w+)\\(([^)]*)\\);\\s*// (-?\\d+): .*");
    private static final List<String> NO_CALL =
            List.of("ClosedFeuds isle = new ClosedFeuds();", "isle.letter(sign);", "}", "");
    private static final Tally tally = new Tally();

    public static void main(String[] args) throws Exception {
        Path root = Path.of(System.getProperty("closedfeuds.source", "src/main/java/ClosedFeuds.java"))
                .toAbsolutePath().resolve("../../../..").normalize();
        String text = Files.readString(root.resolve("README.md"));
        Matcher example = EXAMPLE.matcher(text);
        tally.due("README.md has an example", example.find() ? 1 : 0, 1);
        play(example.group(1));
        namesTests(text, root.resolve("src/test/java"));
        tally.end();
    }

    private static void play(String example) throws Exception {
        ClosedFeuds isle = new ClosedFeuds();
        for (String row : example.split("\n")) {
            String line = row.strip();
            Matcher letters = LETTERS.matcher(line);
            Matcher asked = ASKED.matcher(line);
            if (letters.matches()) {
                letters.group(1).chars().forEach(isle::letter);
            } else if (asked.matches()) {
                int[] numbers = Arrays.stream(asked.group(2).split(", *")).filter(number -> !number.isEmpty())
                        .mapToInt(Integer::parseInt).toArray();
                tally.due("README.md: " + line, answer(isle, asked.group(1), numbers), Long.parseLong(asked.group(3)));
            } else {
                // A call in another form would go unasked.
                tally.due("README.md: read '" + line + "'", NO_CALL.contains(line) || line.startsWith("//") ? 1 : 0, 1);
            }
        }
    }

    private static long answer(ClosedFeuds isle, String name, int[] numbers) throws Exception {
        Class<?>[] types = new Class<?>[numbers.length];
        Arrays.fill(types, int.class);
        Method method = ClosedFeuds.class.getMethod(name, types);
        return ((Number) method.invoke(isle, Arrays.stream(numbers).boxed().toArray())).longValue();
    }

    private static void namesTests(String text, Path tests) throws IOException {
        try (Stream<Path> files = Files.list(tests)) {
            files.map(file -> file.getFileName().toString().replace(".java", ""))
                    .filter(name -> name.endsWith("Test"))
                    .forEach(name -> tally.due("README.md names " + name, text.contains("`" + name + "`") ? 1 : 0, 1));
        }
    }
}
