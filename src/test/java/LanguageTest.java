import java.lang.reflect.Field;
import java.lang.reflect.Method;
import java.lang.reflect.Modifier;
import java.util.ArrayList;
import java.util.List;
import java.util.Set;
import java.util.TreeSet;
import java.util.regex.Matcher;
import java.util.regex.Pattern;

/** What of ../shared/LANGUAGE.md can be seen in the text of the class and in its members. */
public final class LanguageTest {
    /** Words and signs that its rules leave out, or that only a part of the language would need that they leave out. */
    private static final String[] LEFT_OUT = {
        "->", "::", "\\bpackage\\b", "\\bfinally\\b", "\\btry\\b", "\\bcatch\\b", "\\bsynchronized\\b", "\\bassert\\b",
        "\\bvolatile\\b", "\\bnative\\b", "\\bstrictfp\\b", "\\bthrow\\s+(?!new\\b)", "\\bObject\\b", "\\bThread\\b",
        "\\bSystem\\.(?!arraycopy\\b)", "\\bMath\\.\\w+Exact\\b", "\\bRandom\\b", "\\bequals\\b", "\\bhashCode\\b",
        "\\btoString\\b", "@\\w+", "\\+=?\\s*TEXT", "TEXT\\s*\\+", "\\bwhile\\s*\\(\\s*true\\b", "\\bvar\\b"
    };
    private static final String THROWN = "throw new (\\w+)\\((TEXT)?\\)";
    private static final List<String> EXCEPTIONS = List.of(
            "IllegalStateException", "IllegalArgumentException", "IndexOutOfBoundsException", "ArithmeticException",
            "UnsupportedOperationException", "NoSuchElementException", "RuntimeException");
    private static final List<Class<?>> CONSTANTS = List.of(int.class, long.class, boolean.class, char.class, String.class);

    private static final Pattern INDEXED = Pattern.compile("(?<!new )\\b(\\w+\\[[^\\]]+\\])");
    /** Where an index stands in the code: each one is tested by its loop's bound or right ahead of it. */
    private static final Set<String> TESTED_INDEXES = Set.of(
            "row[index]", "jobList[jobCount]", "jobList[job]", "lotList[lotCount]", "lotList[lot]", "corrected[i]", "latest[i]");
    private static final Pattern DIVIDED = Pattern.compile("[/%]=?\\s*((?:\\(\\w+\\) )?\\w+)");
    /** By what the code divides: constants, and two numbers that are tested right ahead. */
    private static final Set<String> DIVISORS = Set.of("2", "4", "STATE_PAIRS", "(float) printed", "(double) printCalls");
    private static final int LONGEST_METHOD = 60;

    public static void main(String[] args) {
        words(Source.code());
        signs();
        lengths();
        dueJust("an index", INDEXED, TESTED_INDEXES, Source.code());
        dueJust("a divisor", DIVIDED, DIVISORS, Source.code());
        imports(Source.code());
        exceptions(Source.code());
        classes();
        Check.finish("LanguageTest");
    }

    private static void words(String code) {
        for (String word : LEFT_OUT) {
            Matcher found = Pattern.compile(word).matcher(code);
            Check.due("the code has " + word, found.find(), false);
        }
    }

    private static void signs() {
        for (String line : Sentences.lines(Source.FILE)) {
            boolean plain = line.chars().allMatch(sign -> sign == '\t' || sign >= ' ' && sign < 127);
            Check.due("has plain signs: " + line, plain, true);
        }
    }

    /** Methods of the class begin at four spaces, those of the classes inside at eight; they end where they begin. */
    private static void lengths() {
        String indent = "";
        int length = 0;
        for (String line : Sentences.lines(Source.FILE)) {
            length++;
            if (line.matches(" {4}(?: {4})?[A-Za-z].*\\(.*[^;]") && !line.matches(".*\\b(if|for|while|switch|return)\\b.*")) {
                indent = line.substring(0, line.length() - line.trim().length());
                length = 1;
            } else if (line.equals(indent + "}")) {
                Check.due("a method has " + length + " lines", length <= LONGEST_METHOD, true);
            }
        }
    }

    /** The pattern finds just what is known to be safe. */
    private static void dueJust(String what, Pattern pattern, Set<String> known, String code) {
        Matcher each = pattern.matcher(code);
        Set<String> found = new TreeSet<>();
        while (each.find()) {
            found.add(each.group(1));
        }
        Check.due(what + " that is known to be tested", found, new TreeSet<>(known));
    }

    private static void imports(String code) {
        List<String> found = new ArrayList<>();
        Matcher each = Pattern.compile("\\bimport\\s+([^;]+);").matcher(code);
        while (each.find()) {
            found.add(each.group(1));
        }
        Check.due("imports", found, List.of("java.util.NoSuchElementException"));
    }

    private static void exceptions(String code) {
        int throwing = 0;
        Matcher each = Pattern.compile(THROWN).matcher(code);
        while (each.find()) {
            Check.due("may be thrown: " + each.group(1), EXCEPTIONS.contains(each.group(1)), true);
            throwing++;
        }
        Check.due("all throws make one of these", throwing, code.split("\\bthrow\\b", -1).length - 1);
    }

    private static void classes() {
        Class<?>[] inside = BinderyDesk.class.getDeclaredClasses();
        Check.due("at most twelve classes", inside.length <= 11, true);
        members(BinderyDesk.class);
        for (Class<?> one : inside) {
            int modifiers = one.getModifiers();
            Check.due(one.getSimpleName() + " is static", Modifier.isStatic(modifiers), true);
            Check.due(one.getSimpleName() + " is not public", Modifier.isPublic(modifiers) || Modifier.isProtected(modifiers), false);
            members(one);
        }
    }

    private static void members(Class<?> one) {
        int fields = 0;
        for (Field field : one.getDeclaredFields()) {
            int modifiers = field.getModifiers();
            if (Modifier.isStatic(modifiers)) {
                Check.due(field + " is a constant", Modifier.isFinal(modifiers) && CONSTANTS.contains(field.getType()), true);
            } else {
                fields++;
            }
        }
        Check.due(one.getSimpleName() + " has at most twenty fields", fields <= 20, true);
        for (Method method : one.getDeclaredMethods()) {
            Check.due(method + " has at most seven parameters", method.getParameterCount() <= 7, true);
        }
    }
}
