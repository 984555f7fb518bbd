import java.io.IOException;
import java.nio.charset.StandardCharsets;
import java.nio.file.Files;
import java.nio.file.Path;
import java.util.TreeSet;
import java.util.regex.Matcher;
import java.util.regex.Pattern;
import java.util.stream.Stream;

/** What README.md says: the answers of its example, its other calls, and the names of the tests. */
public final class ReadmeTests extends Checks {
    private static final Pattern CALL = Pattern.compile("x\\.(\\w+)\\(([-\\d, ]*)\\); *// (-?\\d+|[A-Z]+)(.*)");
    private static final Pattern ALSO = Pattern.compile("(\\w+)\\((\\d*)\\) is (-?\\d+)");
    private static final Pattern LINE = Pattern.compile("the line \"([^\"]*)\"");
    private static final Pattern TEXT = Pattern.compile("`read` of \"([^\"]*)\" answers (-?\\d+)");

    private static String readme;

    private static void example() {
        Matcher block = Pattern.compile("```java\n(.*?)```", Pattern.DOTALL).matcher(readme);
        due("an example", block.find() ? 1 : 0, 1);
        String[] lines = block.group(1).split("\n");
        due("its first line", lines[0], "FerryRounds x = new FerryRounds();");
        FerryRounds x = new FerryRounds();
        for (int line = 1; line < lines.length; line++) {
            Matcher call = CALL.matcher(lines[line]);
            due("a call with its answer: " + lines[line], call.matches() ? 1 : 0, 1);
            due(lines[line], answer(x, call.group(1), call.group(2)), number(call.group(3)));
            dueRest(x, call.group(4));
        }
    }

    private static void dueRest(FerryRounds x, String rest) {
        for (Matcher also = ALSO.matcher(rest); also.find();) {
            due(also.group(), answer(x, also.group(1), also.group(2)), number(also.group(3)));
        }
        for (Matcher told = LINE.matcher(rest); told.find();) {
            due("the line", line(x), told.group(1));
        }
    }

    private static int answer(FerryRounds x, String name, String arguments) {
        String[] told = arguments.isEmpty() ? new String[0] : arguments.split(", *");
        Class<?>[] types = new Class<?>[told.length];
        Object[] numbers = new Object[told.length];
        for (int i = 0; i < told.length; i++) {
            types[i] = int.class;
            numbers[i] = Integer.valueOf(told[i]);
        }
        try {
            return (int) FerryRounds.class.getMethod(name, types).invoke(x, numbers);
        } catch (ReflectiveOperationException e) {
            throw new IllegalStateException(e);
        }
    }

    private static int number(String told) {
        try {
            return told.matches("[A-Z]+") ? FerryRounds.class.getField(told).getInt(null) : Integer.parseInt(told);
        } catch (ReflectiveOperationException e) {
            throw new IllegalStateException(e);
        }
    }

    private static void texts() {
        int found = 0;
        for (Matcher told = TEXT.matcher(readme); told.find(); found++) {
            due(told.group(), read(new FerryRounds(), told.group(1)), number(told.group(2)));
        }
        due("texts are found", found, 2);
    }

    private static void namesOfTests() {
        TreeSet<String> told = new TreeSet<>();
        for (Matcher name = Pattern.compile("(?m)^- `(\\w+Tests)`").matcher(readme); name.find();) {
            told.add(name.group(1));
        }
        TreeSet<String> there = new TreeSet<>();
        try (Stream<Path> files = Files.list(Path.of("src/test/java"))) {
            files.map(file -> file.getFileName().toString()).filter(name -> name.endsWith("Tests.java"))
                    .forEach(name -> there.add(name.replace(".java", "")));
        } catch (IOException e) {
            throw new IllegalStateException(e);
        }
        due("the tests that are told", told.toString(), there.toString());
    }

    public static void main(String[] args) throws IOException {
        readme = new String(Files.readAllBytes(Path.of("README.md")), StandardCharsets.UTF_8);
        run("README.md: the example", ReadmeTests::example);
        run("README.md: texts", ReadmeTests::texts);
        run("README.md: the names of the tests", ReadmeTests::namesOfTests);
        end();
    }
}
