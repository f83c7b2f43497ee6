import java.io.File;
import java.lang.reflect.Method;
import java.nio.file.Path;
import java.util.ArrayList;
import java.util.Arrays;
import java.util.HashMap;
import java.util.List;
import java.util.Map;
import java.util.regex.Matcher;
import java.util.regex.Pattern;

/** README.md has the document's terms and calls in its words, an example that runs, and every test. */
public final class ReadmeTest {
    private static final Path README = Path.of("README.md");
    private static final String AHEAD = "Ahead of the calls ";
    private static final Pattern PROMISED = Pattern.compile("`([^`]*\\))( throws [^`]*)?`: (.*)");
    private static final Pattern EXAMPLE_CALL = Pattern.compile("(\\w+) (\\w+) = desk\\.(\\w+)\\((.*)\\); // (.*)");

    public static void main(String[] args) {
        List<String> readme = Sentences.lines(README);
        List<String> document = Sentences.lines(Sentences.DOCUMENT);
        dueAlike("the terms", paragraphs(section(readme, "## Terms")), terms(document));
        dueAlike("the calls", callsOf(readme), promisesOf(document));
        example(readme);
        tests(String.join("\n", readme));
        Check.finish("ReadmeTest");
    }

    // ---- what the page and the document say

    private static void dueAlike(String what, List<String> got, List<String> want) {
        Check.dueText(what, String.join("\n", got), String.join("\n", want));
    }

    private static List<String> terms(List<String> document) {
        List<String> found = paragraphs(section(document, "## Terms"));
        found.removeIf(paragraph -> paragraph.startsWith(AHEAD));
        return found;
    }

    /** The calls of the page, each with what stands under it, behind the headings of the groups. */
    private static List<String> callsOf(List<String> readme) {
        List<String> found = new ArrayList<>();
        boolean begun = false;
        for (String paragraph : paragraphs(section(readme, "## Calls"))) {
            begun |= paragraph.startsWith("### ");
            if (begun) {
                found.add(paragraph.startsWith("### ") ? paragraph.toLowerCase() : paragraph.replace("**", ""));
            }
        }
        return found;
    }

    /** The same from the document: its groups stand in the terms, its calls in the promises. */
    private static List<String> promisesOf(List<String> document) {
        List<String> due = new ArrayList<>();
        for (String line : section(document, "## Terms")) {
            if (line.startsWith(AHEAD)) {
                due.add("### " + line.replaceFirst(".*---- (.*)\\.", "$1"));
                for (String call : line.replaceFirst(" the interface says: .*", "").substring(AHEAD.length()).split(", ")) {
                    due.addAll(promised(document, call.replace("`", "")));
                }
            }
        }
        return due;
    }

    private static List<String> promised(List<String> document, String call) {
        List<String> due = new ArrayList<>();
        List<String> under = new ArrayList<>();
        String opening = "";
        for (String line : section(document, "## Promise \\d+: " + call)) {
            Matcher promise = PROMISED.matcher(line);
            if (promise.matches()) {
                opening = promise.group(3);
                due.add("`" + promise.group(1) + "`: " + opening);
            } else if (!line.isEmpty() && !line.equals(opening)) {
                under.add(line.startsWith("- ") ? line : "- " + line);
            }
        }
        if (!under.isEmpty()) {
            due.add(String.join(" ", under));
        }
        return due;
    }

    /** The lines behind a heading, up to the next one of the same depth. */
    private static List<String> section(List<String> lines, String heading) {
        List<String> found = new ArrayList<>();
        boolean inside = false;
        for (String line : lines) {
            if (line.startsWith("## ")) {
                inside = line.matches(heading);
            } else if (inside) {
                found.add(line);
            }
        }
        return found;
    }

    /** What stands between empty lines, each in one line. */
    private static List<String> paragraphs(List<String> lines) {
        List<String> found = new ArrayList<>();
        for (String paragraph : String.join("\n", lines).trim().split("\n\n+")) {
            found.add(paragraph.replaceAll("\\s+", " "));
        }
        return found;
    }

    // ---- the example

    /** Runs the example's calls, one a line; what stands behind a line is what it answers. */
    private static void example(List<String> readme) {
        String all = String.join("\n", readme);
        int begin = all.indexOf("```java\n");
        int end = all.indexOf("\n```", begin + 1);
        Check.due("the page has an example", begin >= 0 && end > begin, true);
        String[] lines = all.substring(begin + "```java\n".length(), end).split("\n");
        Check.due("the first line of the example", lines[0], "BinderyDesk desk = new BinderyDesk();");
        BinderyDesk desk = new BinderyDesk();
        Map<String, Object> values = new HashMap<>();
        for (String line : Arrays.asList(lines).subList(1, lines.length)) {
            Matcher call = EXAMPLE_CALL.matcher(line);
            Check.due("is a call with its answer: " + line, call.matches(), true);
            Object answer = answer(desk, call, values);
            Check.due(line, String.valueOf(answer), call.group(5));
            values.put(call.group(2), answer);
        }
    }

    private static Object answer(BinderyDesk desk, Matcher call, Map<String, Object> values) {
        for (Method method : BinderyDesk.class.getDeclaredMethods()) {
            if (method.getName().equals(call.group(3))) {
                Check.due("type of " + call.group(2), call.group(1), method.getReturnType().getName());
                return invoke(method, desk, arguments(call.group(4), values));
            }
        }
        return "no such call";
    }

    private static Object invoke(Method method, BinderyDesk desk, Object[] arguments) {
        try {
            return method.invoke(desk, arguments);
        } catch (ReflectiveOperationException e) {
            return "throws." + e.getCause();
        }
    }

    private static Object[] arguments(String text, Map<String, Object> values) {
        List<Object> found = new ArrayList<>();
        for (String argument : text.isEmpty() ? new String[0] : text.split(", ")) {
            if (argument.matches("'.'")) {
                found.add(argument.charAt(1));
            } else {
                found.add(argument.matches("-?\\d+") ? Integer.valueOf(argument) : values.get(argument));
            }
        }
        return found.toArray();
    }

    // ---- the tests

    private static void tests(String readme) {
        File[] files = new File("src/test/java").listFiles();
        Check.due("there are tests", files != null, true);
        for (File file : files) {
            String name = file.getName().replace(".java", "");
            Check.due("the page names " + name, readme.contains("`" + name + "`"), true);
        }
    }
}
