import java.lang.reflect.Constructor;
import java.lang.reflect.Field;
import java.lang.reflect.Method;
import java.lang.reflect.Modifier;
import java.util.ArrayList;
import java.util.Arrays;
import java.util.Collections;
import java.util.List;
import java.util.regex.Matcher;
import java.util.regex.Pattern;

/** The face has the document's methods with their exceptions, in its words, and nothing else. */
public final class FaceTest {
    private static final String INDEX = " IndexOutOfBoundsException";
    private static final String STATE = " IllegalStateException";
    private static final String ARGUMENT = " IllegalArgumentException";
    private static final String NONE = " NoSuchElementException";
    private static final String REFUSED = " UnsupportedOperationException";
    private static final String ARITHMETIC = " ArithmeticException";

    private static final String[] FACE = {
        "int addContent()" + STATE,
        "boolean approve(int)" + INDEX,
        "int correct(int)" + INDEX + STATE,
        "int state(int)" + INDEX,
        "int addJob(char)" + ARGUMENT + STATE,
        "int addPage(int,int)" + INDEX + STATE,
        "int pages(int)" + INDEX,
        "int sheets(int)" + INDEX + STATE,
        "int pageAt(int,int,int)" + INDEX + STATE + NONE,
        "int sheetOf(int,int)" + INDEX + STATE + NONE,
        "int print(int,int,int)" + INDEX + STATE + NONE + ARGUMENT + REFUSED,
        "int makeready(int,int)" + INDEX + STATE + NONE,
        "int leastMakeready(int)" + INDEX + STATE,
        "int leastByTrying(int)" + INDEX + STATE + REFUSED,
        "int stock(int,int)" + INDEX + STATE + NONE,
        "int plates()",
        "int platesNeeded(int)" + INDEX + STATE,
        "int bind(int,int)" + INDEX + ARGUMENT + STATE + REFUSED,
        "int lacks(int,int)" + INDEX + ARGUMENT + STATE,
        "int lots()",
        "int copies(int)" + INDEX,
        "int stateIn(int,int)" + INDEX + NONE,
        "int stateByReplay(int,int)" + INDEX + NONE,
        "int outdated(int)" + INDEX,
        "long waste()",
        "float wasteShare()" + ARITHMETIC,
        "double meanMakeready()" + ARITHMETIC,
    };

    private static final Pattern CALL = Pattern.compile("    public (\\w+) (\\w+)\\((.*)\\)(?: throws (.*))?;");

    public static void main(String[] args) {
        Class<?> desk = BinderyDesk.class;
        document();
        Check.due("the class is public and final", desk.getModifiers(), Modifier.PUBLIC | Modifier.FINAL);
        methods(desk);
        for (Field field : desk.getDeclaredFields()) {
            Check.due(field.getName() + " is private", Modifier.isPrivate(field.getModifiers()), true);
        }
        Constructor<?>[] constructors = desk.getDeclaredConstructors();
        Check.due("constructors", constructors.length, 1);
        Check.due("the constructor", constructors[0].toString(), "public BinderyDesk()");
        Check.finish("FaceTest");
    }

    /** The list above has the document's calls, in its order. */
    private static void document() {
        List<String> told = new ArrayList<>();
        for (String line : Sentences.lines(Sentences.DOCUMENT)) {
            Matcher call = CALL.matcher(line);
            if (call.matches()) {
                String parameters = call.group(3).replaceAll(" \\w+(,|$)", "$1").replace(" ", "");
                String exceptions = call.group(4) == null ? "" : " " + call.group(4).replace(",", "");
                told.add(call.group(1) + " " + call.group(2) + "(" + parameters + ")" + exceptions);
            }
        }
        Check.due("the document's calls", Arrays.asList(FACE), told);
    }

    private static void methods(Class<?> desk) {
        List<String> found = new ArrayList<>();
        List<String> publicNames = new ArrayList<>();
        List<String> privateNames = new ArrayList<>();
        for (Method method : desk.getDeclaredMethods()) {
            if (Modifier.isPrivate(method.getModifiers())) {
                privateNames.add(method.getName());
            } else {
                found.add(textOf(method));
                publicNames.add(method.getName());
                Check.due("modifiers of " + method.getName(), method.getModifiers(), Modifier.PUBLIC);
            }
        }
        List<String> due = new ArrayList<>(Arrays.asList(FACE));
        Collections.sort(found);
        Collections.sort(due);
        Check.due("the face", found, due);
        Check.due("no private method has a public one's name", Collections.disjoint(publicNames, privateNames), true);
    }

    private static String textOf(Method method) {
        StringBuilder text = new StringBuilder();
        text.append(method.getReturnType().getSimpleName()).append(' ').append(method.getName()).append('(');
        for (Class<?> type : method.getParameterTypes()) {
            text.append(type.getSimpleName()).append(',');
        }
        if (method.getParameterCount() > 0) {
            text.setLength(text.length() - 1);
        }
        text.append(')');
        for (Class<?> type : method.getExceptionTypes()) {
            text.append(' ').append(type.getSimpleName());
        }
        return text.toString();
    }
}
