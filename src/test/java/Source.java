import java.nio.file.Path;
import java.util.ArrayList;
import java.util.Arrays;
import java.util.List;
import java.util.regex.Matcher;
import java.util.regex.Pattern;

/** The text of the class. */
final class Source {
    static final Path FILE = Path.of("src/main/java/BinderyDesk.java");
    private static final Pattern CALL = Pattern.compile("^    public \\w+ (\\w+)\\(.*");

    private Source() {
    }

    /** The heading stands ahead of just these calls, in this order. */
    static void dueAhead(String heading, String... calls) {
        List<String> found = new ArrayList<>();
        String under = "";
        for (String line : Sentences.lines(FILE)) {
            Matcher call = CALL.matcher(line);
            if (line.trim().startsWith("// ----")) {
                under = line.trim().substring("// ----".length()).trim();
            } else if (call.matches() && under.equals(heading)) {
                found.add(call.group(1));
            }
        }
        Check.due("calls behind ---- " + heading, found, Arrays.asList(calls));
    }

    /** The code alone: what comments and texts say is left out. */
    static String code() {
        String all = String.join("\n", Sentences.lines(FILE));
        return all.replaceAll("(?s)/\\*.*?\\*/", "").replaceAll("//[^\n]*", "").replaceAll("\"[^\"\n]*\"", "TEXT");
    }
}
