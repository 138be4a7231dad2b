import java.io.ByteArrayOutputStream;
import java.io.IOException;
import java.io.PrintStream;
import java.nio.charset.StandardCharsets;
import java.nio.file.Files;
import java.nio.file.Path;
import java.util.regex.Matcher;
import java.util.regex.Pattern;

/** README.md names each call as the document does, and its example prints what stands there. */
public final class ReadmeTest {
    public static void main(String[] args) throws IOException {
        String readme = Files.readString(Path.of("README.md"), StandardCharsets.UTF_8);
        String doc = Files.readString(Path.of("../shared/DOC.md"), StandardCharsets.UTF_8);
        calls(readme, doc);
        example(readme);
        tests(readme);
        Checks.finish("ReadmeTest");
    }

    /** A row of a table names each promise's number and its call. */
    private static void calls(String readme, String doc) {
        Matcher promise = Pattern.compile("(?m)^## Promise (\\d+): .*\\s+`([^`]*)`:").matcher(doc);
        int promises = 0;
        while (promise.find()) {
            promises++;
            String row = "\n| " + promise.group(1) + " | `" + promise.group(2) + "` | ";
            Checks.due("README.md has:" + row, readme.contains(row));
        }
        Checks.due("promises", promises, 30);
        Matcher member = Pattern.compile("(?m)^    public ([^=;]*)(?: = .*)?;").matcher(doc);
        int members = 0;
        while (member.find()) {
            members++;
            String name = member.group(1).replaceAll("^static final int ", "ZoneShares.");
            Checks.due("README.md has: " + name, readme.contains("`" + name + "`"));
        }
        Checks.due("members of the face", members, 31);
        Checks.due("how many calls", readme.contains("at most 512 calls"));
    }

    /** Example.java stands in it word by word, and so does what it prints. */
    private static void example(String readme) throws IOException {
        String program = Files.readString(Path.of("src/test/java/Example.java"), StandardCharsets.UTF_8);
        Checks.due("Example.java stands in README.md", readme.contains("```java\n" + program + "```\n"));
        ByteArrayOutputStream bytes = new ByteArrayOutputStream();
        PrintStream out = System.out;
        System.setOut(new PrintStream(bytes, true, StandardCharsets.UTF_8));
        Example.main(new String[0]);
        System.setOut(out);
        String printed = bytes.toString(StandardCharsets.UTF_8).replace(System.lineSeparator(), "\n");
        Checks.due("what Example prints stands in README.md", readme.contains("```text\n" + printed + "```\n"));
        for (String told : new String[] {"\"aab/abb\"", "\"aba/cb.\"", "\"012/001\"", "\"a=10,b=7,?=5\""}) {
            Checks.due("the example tells " + told, program.contains("tell(x, " + told + ");"));
        }
    }

    private static void tests(String readme) {
        Checks.due("how the tests are run", readme.contains("## How to run its tests\n\n```sh\n.ci/run\n```"));
        Checks.due(".ci/run can be run", Files.isExecutable(Path.of(".ci/run")));
        Matcher name = Pattern.compile("`(\\w+)(?:Test|\\.java)`").matcher(readme);
        while (name.find()) {
            boolean stands = Files.exists(Path.of("src/test/java/" + name.group(1) + "Test.java"))
                    || Files.exists(Path.of("src/test/java/" + name.group(1) + ".java"));
            Checks.due("there is " + name.group(), stands);
        }
    }
}
