import java.io.IOException;
import java.nio.charset.StandardCharsets;
import java.nio.file.Files;
import java.nio.file.Path;
import java.util.ArrayList;
import java.util.List;
import java.util.Map;
import java.util.TreeMap;
import java.util.regex.Matcher;
import java.util.regex.Pattern;
import java.util.stream.Stream;

/**
 * Every sentence of the document from its first line to the last promise is named by a test, word
 * by word; but for the face, which RulesTest compares, and for what is not promised.
 */
public final class SentencesTest {
    private static final Pattern NAMED =
            Pattern.compile("says\\(\\s*\"(\\w+)\"\\s*,\\s*((?:\"(?:[^\"\\\\]|\\\\.)*\"\\s*\\+?\\s*)+)\\)");

    public static void main(String[] args) throws Exception {
        Map<String, String> sections = sections();
        Checks.due("sections", sections.size(), 34);
        Map<String, StringBuilder> left = new TreeMap<>();
        sections.forEach((name, text) -> left.put(name, new StringBuilder(text)));
        for (String[] named : named()) {
            String text = sections.getOrDefault(named[0], "");
            int at = text.indexOf(named[1]);
            Checks.due("section " + named[0] + " has: " + named[1], at >= 0);
            for (int k = 0; at >= 0 && k < named[1].length(); k++) {
                left.get(named[0]).setCharAt(at + k, ' ');
            }
        }
        left.forEach((name, text) -> {
            String words = text.toString().replaceAll("[^A-Za-z0-9]+", " ").strip();
            Checks.due("no test names of section " + name + ": " + words, words.isEmpty());
        });
        Checks.finish("SentencesTest");
    }

    private static String plain(String text) {
        return text.replace("```text", " ").replace("```", " ").replaceAll("\\s+", " ").strip();
    }

    /** What it is, the Terms, the constants, and the promises by their numbers, without the line of the face. */
    private static Map<String, String> sections() throws IOException {
        String doc = Files.readString(Path.of("../shared/DOC.md"), StandardCharsets.UTF_8);
        Map<String, String> sections = new TreeMap<>();
        int what = doc.indexOf("## What it is");
        int first = doc.indexOf("==== I. ");
        int second = doc.indexOf("==== II. ");
        int constants = doc.indexOf("The constants:", second);
        sections.put("What", plain(doc.substring(what + 13, doc.indexOf("\n## ", what))));
        sections.put("Constants", plain(doc.substring(constants, doc.indexOf("\n## ", constants))));
        sections.put("I", plain(doc.substring(first + 8, second)));
        sections.put("II", plain(doc.substring(second + 9, constants)));
        Matcher m = Pattern.compile("(?s)\n## Promise (\\d+): \\w[^\n]*\n(.*?)(?=\n## )").matcher(doc);
        while (m.find()) {
            sections.put(m.group(1), plain(m.group(2).replaceFirst("`[^`]*`:", "")));
        }
        return sections;
    }

    private static List<String[]> named() throws IOException {
        List<String[]> all = new ArrayList<>();
        List<Path> files;
        try (Stream<Path> list = Files.list(Path.of("src/test/java"))) {
            files = list.filter(file -> file.toString().endsWith("Test.java")).sorted().toList();
        }
        for (Path file : files) {
            Matcher m = NAMED.matcher(Files.readString(file, StandardCharsets.UTF_8));
            while (m.find()) {
                all.add(new String[] {m.group(1), m.group(2).replaceAll("\"\\s*\\+\\s*\"", "")
                        .strip().replaceAll("^\"|\"$", "").replace("\\\"", "\"")});
            }
        }
        return all;
    }
}
