import java.io.ByteArrayOutputStream;
import java.io.IOException;
import java.io.PrintStream;
import java.lang.reflect.Method;
import java.lang.reflect.Modifier;
import java.nio.charset.StandardCharsets;
import java.nio.file.Files;
import java.nio.file.Path;
import java.util.ArrayList;
import java.util.List;
import java.util.TreeSet;
import java.util.regex.Matcher;
import java.util.regex.Pattern;
import java.util.stream.Stream;

/** README.md: its example, and its tables of calls, constants and test programs. */
public final class ReadmeTests {
    private static final Check CHECK = new Check("ReadmeTests");
    private static final Path README = Path.of("README.md");
    private static final Path TESTS = Path.of("src/test/java");
    private static final Path EXAMPLE = TESTS.resolve("Example.java");
    private static final String NAME = "`(\\w+)`";

    public static void main(String[] args) throws IOException {
        String readme = Files.readString(README);
        exampleStandsThere(readme);
        exampleAnswersWhatItSays(readme);
        commandsNameWhatThereIs(readme);
        allCallsAreNamed(readme);
        allConstantsAreNamed(readme);
        allTestProgramsAreNamed(readme);
        CHECK.end();
    }

    private static List<String> blocks(String readme, String language) {
        return found(readme, "(?ms)^```" + language + "\n(.*?)^```$");
    }

    /** What the first group of the pattern matched, each time. */
    private static List<String> found(String text, String pattern) {
        List<String> list = new ArrayList<>();
        Matcher matcher = Pattern.compile(pattern).matcher(text);
        while (matcher.find()) {
            list.add(matcher.group(1));
        }
        return list;
    }

    private static void exampleStandsThere(String readme) throws IOException {
        CHECK.promise("the example of README.md");
        List<String> blocks = blocks(readme, "java");
        CHECK.due("examples", blocks.size(), 1);
        CHECK.due("the example", blocks.toString(), List.of(Files.readString(EXAMPLE)).toString());
    }

    private static void exampleAnswersWhatItSays(String readme) {
        CHECK.promise("the answers of the example");
        List<String> comments = found(blocks(readme, "java").toString(), "println\\(.*\\); *// (.*)");
        String[] printed = printedByExample().split("\n");
        CHECK.holds("an example that tells many answers", comments.size() > 20);
        CHECK.due("lines printed", printed.length, comments.size());
        for (int i = 0; i < Math.min(printed.length, comments.size()); i++) {
            String comment = comments.get(i);
            int end = comment.indexOf(": ");
            CHECK.due("line " + i, printed[i], end < 0 ? comment : comment.substring(0, end));
        }
    }

    private static String printedByExample() {
        PrintStream before = System.out;
        ByteArrayOutputStream caught = new ByteArrayOutputStream();
        System.setOut(new PrintStream(caught, true, StandardCharsets.UTF_8));
        Example.main(new String[0]);
        System.out.flush();
        System.setOut(before);
        return caught.toString(StandardCharsets.UTF_8).replace("\r", "");
    }

    /** Only what stands in the repository: ../shared may hold other tests some day. */
    private static void commandsNameWhatThereIs(String readme) {
        CHECK.promise("the commands of README.md");
        List<String> blocks = blocks(readme, "sh");
        CHECK.holds("commands for the example, all tests, one of them and one of ../shared", blocks.size() == 4);
        for (String block : blocks) {
            for (String path : found(block, "(?:^|\\s)((?:src/|\\.ci/)\\S+)")) {
                CHECK.holds("that there is " + path, Files.exists(Path.of(path.replace("/*.java", ""))));
            }
        }
        for (String name : List.of("Example", "ChangeTests")) {
            CHECK.holds("a command that runs " + name, blocks.toString().contains("java -cp /tmp/textropes " + name + "\n"));
        }
    }

    private static void allCallsAreNamed(String readme) {
        CHECK.promise("the table of calls");
        List<String> named = new ArrayList<>();
        for (String row : found(readme, "(?m)^\\| (`[a-zA-Z` ]+`) \\|.*\\|.*\\|$")) {
            if (!row.matches("`[A-Z_]+`")) {
                named.addAll(found(row, NAME));
            }
        }
        List<String> due = new ArrayList<>(List.of("TextRopes"));
        for (Method method : TextRopes.class.getDeclaredMethods()) {
            if (Modifier.isPublic(method.getModifiers())) {
                due.add(method.getName());
            }
        }
        CHECK.due("calls", sorted(named), sorted(due));
    }

    private static void allConstantsAreNamed(String readme) {
        CHECK.promise("the table of constants");
        List<String> named = found(readme, "(?m)^\\| (`[A-Z_]+` \\| -\\d+) \\|");
        List<String> due = List.of("`NO_SUCH` | " + TextRopes.NO_SUCH, "`BAD_VALUE` | " + TextRopes.BAD_VALUE,
                "`NOT_POSSIBLE` | " + TextRopes.NOT_POSSIBLE, "`LIMIT` | " + TextRopes.LIMIT, "`NONE` | " + TextRopes.NONE);
        CHECK.due("constants", named.toString(), due.toString());
    }

    private static void allTestProgramsAreNamed(String readme) throws IOException {
        CHECK.promise("the table of test programs");
        List<String> due = new ArrayList<>();
        try (Stream<Path> files = Files.list(TESTS)) {
            files.map(file -> file.getFileName().toString()).filter(name -> name.endsWith("Tests.java"))
                    .forEach(name -> due.add(name.replace(".java", "")));
        }
        CHECK.due("test programs", sorted(found(readme, "(?m)^\\| (\\w+Tests) \\|")), sorted(due));
    }

    private static String sorted(List<String> names) {
        CHECK.due("names that stand twice", names.size() - new TreeSet<>(names).size(), 0);
        return new TreeSet<>(names).toString();
    }
}
