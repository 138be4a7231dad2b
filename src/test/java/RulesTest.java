import java.lang.reflect.Field;
import java.lang.reflect.Method;
import java.lang.reflect.Modifier;
import java.nio.charset.StandardCharsets;
import java.nio.file.Files;
import java.nio.file.Path;
import java.util.ArrayList;
import java.util.Arrays;
import java.util.Collections;
import java.util.HashMap;
import java.util.HashSet;
import java.util.List;
import java.util.Map;
import java.util.Set;
import java.util.regex.Matcher;
import java.util.regex.Pattern;

/** What of the document's face and of LANGUAGE.md can be seen from outside or in the text. */
public final class RulesTest {
    public static void main(String[] args) throws Exception {
        face();
        classes(ZoneShares.class);
        Checks.due("at most twelve classes", 1 + ZoneShares.class.getDeclaredClasses().length <= 12);
        String source = Files.readString(Path.of("src/main/java/ZoneShares.java"), StandardCharsets.US_ASCII);
        words(source);
        methodLengths(source);
        depths(source);
        Checks.says("Constants", "The constants: `NONE = -1`: None.");
        Checks.due("NONE", ZoneShares.NONE, -1);
        Checks.finish("RulesTest");
    }

    private static void face() throws Exception {
        List<String> asked = new ArrayList<>();
        Matcher m = Pattern.compile("public (int|long) (\\w+)\\((.*)\\);")
                .matcher(Files.readString(Path.of("../shared/DOC.md"), StandardCharsets.UTF_8));
        while (m.find()) {
            asked.add(m.group(1) + " " + m.group(2) + " " + (m.group(3).isEmpty() ? 0 : m.group(3).split(",").length));
        }
        List<String> found = new ArrayList<>();
        List<String> hidden = new ArrayList<>();
        for (Method method : ZoneShares.class.getDeclaredMethods()) {
            if (Modifier.isPublic(method.getModifiers())) {
                found.add(method.getReturnType() + " " + method.getName() + " " + method.getParameterCount());
            } else {
                Checks.due(method + " is private", Modifier.isPrivate(method.getModifiers()));
                hidden.add(method.getName());
            }
        }
        Collections.sort(asked);
        Collections.sort(found);
        Checks.due("the methods " + found + " are " + asked, found.equals(asked) && asked.size() == 29);
        for (String name : hidden) {
            Checks.due("no private method is called " + name,
                    asked.stream().noneMatch(each -> each.split(" ")[1].equals(name)));
        }
        Checks.due("public and final", Modifier.isFinal(ZoneShares.class.getModifiers())
                && Modifier.isPublic(ZoneShares.class.getModifiers()));
        Checks.due("one public constructor", ZoneShares.class.getConstructors().length == 1
                && ZoneShares.class.getDeclaredConstructors().length == 1);
        for (Field field : ZoneShares.class.getDeclaredFields()) {
            boolean none = field.getName().equals("NONE");
            Checks.due(field + " is private", Modifier.isPrivate(field.getModifiers()) != none);
        }
    }

    private static void classes(Class<?> kind) {
        int fields = 0;
        for (Field field : kind.getDeclaredFields()) {
            boolean fixed = Modifier.isStatic(field.getModifiers());
            Checks.due(field + " is final if it is static", !fixed || Modifier.isFinal(field.getModifiers()));
            fields += fixed ? 0 : 1;
        }
        Checks.due(kind + " has at most twenty fields", fields <= 20);
        for (Method method : kind.getDeclaredMethods()) {
            Checks.due(method + " has at most seven parameters", method.getParameterCount() <= 7);
        }
        for (Class<?> inner : kind.getDeclaredClasses()) {
            Checks.due(inner + " is static", Modifier.isStatic(inner.getModifiers()));
            Checks.due(inner + " is not public", !Modifier.isPublic(inner.getModifiers()));
            classes(inner);
        }
    }

    private static void words(String source) {
        String code = bare(source);
        Matcher imports = Pattern.compile("import (.*);").matcher(code);
        while (imports.find()) {
            Checks.due("import " + imports.group(1), imports.group(1).equals("java.util.Arrays"));
        }
        for (String word : Arrays.asList("throw", "try", "catch", "finally", "synchronized", "assert", "package",
                "hashCode", "equals", "toString", "Double", "Float", "Object", "instanceof", "var")) {
            Checks.due("no " + word, !Pattern.compile("\\b" + word + "\\b").matcher(code).find());
        }
        for (String sign : Arrays.asList("->", "::", "Exact(", "\"", "@")) {
            Checks.due("no " + sign, !code.contains(sign));
        }
        Matcher library = Pattern.compile("\\b(Math|Arrays|System|Integer|Long)\\.(\\w+)").matcher(code);
        List<String> listed = Arrays.asList("Math.max", "Math.min", "Math.abs", "Arrays.fill", "System.arraycopy",
                "Integer.bitCount");
        while (library.find()) {
            Checks.due(library.group(), listed.contains(library.group()));
        }
    }

    private static void methodLengths(String source) {
        String[] lines = source.split("\n");
        for (int from = 0; from < lines.length; from++) {
            String start = lines[from];
            int indent = start.length() - start.stripLeading().length();
            if (start.endsWith(") {") && !start.strip().matches("(if|for|while|switch|\\}|&&|\\|\\|).*")) {
                int to = from;
                while (!lines[to].equals(" ".repeat(indent) + "}")) {
                    to++;
                }
                Checks.due(start.strip() + " is short", to - from < 60);
            }
        }
    }

    /** The text without its comments. */
    private static String bare(String source) {
        return source.replaceAll("(?s)/\\*.*?\\*/", " ").replaceAll("//.*", " ");
    }

    /** By the name of a method, what stands in it; methods of one name are taken for one. */
    private static Map<String, String> bodies(String source) {
        Map<String, String> bodies = new HashMap<>();
        Matcher m = Pattern.compile("(?ms)^( +)(?:\\w[\\w\\[\\]]* )*(\\w+)\\([^)]*\\) \\{\n(.*?)^\\1\\}").matcher(bare(source));
        while (m.find()) {
            bodies.merge(m.group(2), m.group(3), String::concat);
        }
        return bodies;
    }

    /** No method calls itself, calls go at most eight deep, and none makes an object but for constructors. */
    private static void depths(String source) {
        Map<String, String> bodies = bodies(source);
        Checks.due("methods that were found: " + bodies.size(), bodies.size() > 100);
        for (Method method : ZoneShares.class.getDeclaredMethods()) {
            Checks.due("found " + method.getName(), bodies.containsKey(method.getName()));
        }
        for (Class<?> inner : ZoneShares.class.getDeclaredClasses()) {
            for (Method method : inner.getDeclaredMethods()) {
                Checks.due("found " + method.getName(), bodies.containsKey(method.getName()));
            }
        }
        for (Map.Entry<String, String> each : bodies.entrySet()) {
            int deep = depth(each.getKey(), bodies, new HashSet<>());
            Checks.due(each.getKey() + " goes " + deep + " deep", deep <= 8);
            boolean makes = Pattern.compile("\\bnew\\b").matcher(each.getValue()).find();
            Checks.due(each.getKey() + " makes no object", !makes || Character.isUpperCase(each.getKey().charAt(0)));
        }
    }

    private static int depth(String name, Map<String, String> bodies, Set<String> open) {
        if (!open.add(name)) {
            return 1000;
        }
        int most = 0;
        Matcher call = Pattern.compile("(?<!new )\\b(\\w+)\\(").matcher(bodies.get(name));
        while (call.find()) {
            if (bodies.containsKey(call.group(1))) {
                most = Math.max(most, depth(call.group(1), bodies, open));
            }
        }
        open.remove(name);
        return 1 + most;
    }
}
