import java.io.IOException;
import java.nio.file.Files;
import java.nio.file.Path;
import java.util.List;
import java.util.regex.Matcher;
import java.util.regex.Pattern;
import javax.tools.ToolProvider;

/** README.md: its example compiles and answers as its comments say, and its error codes are those of the document. */
public final class ReadmeTest {
    private static final Runs RUNS = new Runs();
    private static final Pattern CALL = Pattern.compile("desk\\.(\\w+\\(.*\\)); +// (-?\\w+)(: .*)?");
    private static final Pattern CODE = Pattern.compile("- `(\\w+) = (-\\d)`: (.*)");

    public static void main(String[] args) throws Exception {
        List<String> readme = Files.readAllLines(Path.of("README.md"));
        List<String> example = example(readme);
        compile(example);
        answers(example);
        codes(readme);
        RUNS.finish();
    }

    private static List<String> example(List<String> readme) {
        int first = readme.indexOf("```java") + 1;
        List<String> rest = readme.subList(first, readme.size());
        return first == 0 ? List.of() : rest.subList(0, rest.indexOf("```"));
    }

    private static void compile(List<String> example) throws IOException {
        RUNS.sentence("javac -d out src/main/java/LayeredClaims.java Example.java");
        Path out = Files.createTempDirectory("readme");
        Path source = out.resolve("Example.java");
        Files.write(source, example);
        int errors = ToolProvider.getSystemJavaCompiler().run(null, null, null, "-d", out.toString(),
            "src/main/java/LayeredClaims.java", source.toString());
        RUNS.dueNumber("javac", errors, 0);
        for (String name : out.toFile().list()) {
            Files.delete(out.resolve(name));
        }
        Files.delete(out);
    }

    private static void answers(List<String> example) throws ReflectiveOperationException {
        RUNS.sentence("The comment behind each call is its answer.");
        RUNS.desk();
        for (String line : example) {
            if (!line.contains("desk.")) {
                continue;
            }
            Matcher call = CALL.matcher(line.strip());
            boolean isCall = call.matches();
            RUNS.dueNumber("a call and its answer stand in \"" + line + "\"", isCall ? 1 : 0, 1);
            if (isCall) {
                RUNS.due(call.group(1), numberOf(call.group(2)));
            }
        }
    }

    private static int numberOf(String word) throws ReflectiveOperationException {
        return word.matches("-?\\d+") ? Integer.parseInt(word) : LayeredClaims.class.getField(word).getInt(null);
    }

    private static void codes(List<String> readme) throws IOException, ReflectiveOperationException {
        RUNS.sentence("The constants:");
        int found = 0;
        for (String line : Files.readAllLines(Path.of("../shared/DOC.md"))) {
            Matcher code = CODE.matcher(line);
            if (code.matches()) {
                found++;
                String row = "| `" + code.group(1) + "` | " + code.group(2) + " | " + code.group(3) + " |";
                RUNS.dueNumber("rows of README.md that read " + row, readme.contains(row) ? 1 : 0, 1);
                RUNS.dueNumber(code.group(1), numberOf(code.group(1)), Integer.parseInt(code.group(2)));
            }
        }
        RUNS.dueNumber("error codes of the document", found, 6);
    }
}
