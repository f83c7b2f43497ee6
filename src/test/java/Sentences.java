import java.io.IOException;
import java.nio.file.Files;
import java.nio.file.Path;
import java.util.ArrayList;
import java.util.List;
import java.util.Set;
import java.util.TreeSet;

/** The document's sentences, and which of them have a test of their own. */
final class Sentences {
    static final Path DOCUMENT = Path.of("../shared/DOC.md");

    interface Test {
        void run();
    }

    /** Headings within the Terms, and the title's line, which the rest of the document tells in full. */
    private static final String TITLE_LINE = "A print shop: ";

    private final Set<String> tested = new TreeSet<>();
    private String section = "";

    void section(String heading) {
        section = heading;
    }

    /** Runs a test that would fail if this sentence of the section were broken. */
    void holds(String sentence, Test test) {
        String name = section + " | " + sentence;
        Check.under(name);
        try {
            test.run();
        } catch (RuntimeException e) {
            Check.due("the test", "throws " + e, "no exception");
        }
        Check.under("");
        tested.add(name);
    }

    /** Every sentence of the document that a program can break has a test, and no test has a sentence of its own making. */
    void dueAllOf(Path document) {
        Set<String> told = told(document);
        for (String sentence : told) {
            Check.due("has a test: " + sentence, tested.contains(sentence), true);
        }
        for (String sentence : tested) {
            Check.due("is in the document: " + sentence, told.contains(sentence), true);
        }
        System.out.println(tested.size() + " sentences of the document have tests");
    }

    private static Set<String> told(Path document) {
        Set<String> told = new TreeSet<>();
        String heading = "";
        boolean code = false;
        for (String line : lines(document)) {
            if (line.startsWith("```")) {
                code = !code;
            } else if (line.startsWith("#")) {
                heading = line.replaceFirst("^#+ ", "");
            } else if (!code && !heading.equals("Not promised")) {
                for (String sentence : sentencesOf(line)) {
                    told.add(heading + " | " + sentence);
                }
            }
        }
        return told;
    }

    private static List<String> sentencesOf(String line) {
        List<String> found = new ArrayList<>();
        if (line.startsWith("- ")) {
            // A parameter without values says no more than the sentences around it.
            if (line.matches(".*[0-9'].*")) {
                found.add(line);
            }
            return found;
        }
        String text = line.replaceFirst("^`[^`]*`: ", "");
        for (String sentence : text.split("(?<=[.]) (?=[A-Z])")) {
            if (sentence.contains(" ") && !sentence.startsWith(TITLE_LINE)) {
                found.add(sentence);
            }
        }
        return found;
    }

    static List<String> lines(Path file) {
        try {
            return Files.readAllLines(file);
        } catch (IOException e) {
            throw new IllegalStateException("can't read " + file, e);
        }
    }
}
