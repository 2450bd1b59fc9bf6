import java.io.IOException;
import java.lang.reflect.Field;
import java.nio.file.Files;
import java.nio.file.Path;
import java.util.ArrayList;
import java.util.List;
import java.util.Set;
import java.util.TreeSet;
import java.util.regex.Matcher;
import java.util.regex.Pattern;
import java.util.stream.Stream;

/** README.md holds: its run of calls answers so, its refusals are the class's, its tests are those there are. */
public final class ReadmeTest {
    private static final Path README = Path.of("README.md");
    private static final String NEW = "SpellLayers x = new SpellLayers();";
    private static final Pattern RUN = Pattern.compile("(?s)```java\n(.*?)```");
    private static final Pattern CALL = Pattern.compile("x\\.(\\w+\\([^()]*\\)); +// (-?\\d+): \\S.*");
    private static final Pattern REFUSAL = Pattern.compile("\\| `([A-Z]+)` \\| (-\\d+) \\| .+ \\|");
    private static final Pattern TEST = Pattern.compile("\\| `(\\w+)` \\| .+ \\|");

    private static final Check check = new Check("ReadmeTest");

    public static void main(String[] args) throws IOException {
        String readme = Files.readString(README);
        Set<Long> answers = new TreeSet<>();
        Matcher runs = RUN.matcher(readme);
        while (runs.find()) {
            make(runs.group(1), answers);
        }
        refusals(readme, answers);
        tests(readme);
        check.end();
    }

    /** Makes a run's calls, each line of it an answer; what was answered is added to the answers. */
    private static void make(String run, Set<Long> answers) {
        String[] lines = run.split("\n");
        check.holds("a run begins with a new object", lines[0].equals(NEW));
        Script x = Script.of("");
        for (int i = 1; i < lines.length; i++) {
            Matcher call = CALL.matcher(lines[i]);
            boolean isCall = call.matches();
            check.holds("a call with its answer: " + lines[i], isCall);
            if (isCall) {
                long answer = x.ask(call.group(1));
                check.due(call.group(1), answer, Long.parseLong(call.group(2)));
                answers.add(answer);
            }
        }
    }

    /** The refusals told are the class's constants, and the run shows each of them. */
    private static void refusals(String readme, Set<Long> answers) {
        List<String> told = new ArrayList<>();
        for (String line : readme.split("\n")) {
            Matcher refusal = REFUSAL.matcher(line);
            if (refusal.matches()) {
                told.add(refusal.group(1));
                long value = Long.parseLong(refusal.group(2));
                check.due(refusal.group(1), constant(refusal.group(1)), value);
                check.holds("the run shows " + refusal.group(1), answers.contains(value));
            }
        }
        check.holds("BAD, STATE, FULL, NO: " + told, told.equals(List.of("BAD", "STATE", "FULL", "NO")));
    }

    private static long constant(String name) {
        try {
            Field field = SpellLayers.class.getField(name);
            return field.getInt(null);
        } catch (ReflectiveOperationException e) {
            return 0;
        }
    }

    private static void tests(String readme) throws IOException {
        Set<String> there = new TreeSet<>();
        try (Stream<Path> files = Files.list(Path.of("src/test/java"))) {
            files.map(file -> file.getFileName().toString()).filter(name -> name.endsWith("Test.java"))
                .forEach(name -> there.add(name.replace(".java", "")));
        }
        Set<String> told = new TreeSet<>();
        for (String line : readme.split("\n")) {
            Matcher test = TEST.matcher(line);
            if (test.matches() && test.group(1).endsWith("Test")) {
                told.add(test.group(1));
            }
        }
        check.holds("the tests there are, " + there + ", are those told, " + told, told.equals(there));
    }
}
