import java.util.Arrays;
import java.util.List;
import java.util.Random;

/** Any numbers in any state, far beyond 512 calls: only documented exceptions, none by the machine. */
public final class AnyArgumentsTest {
    private static final int[] NUMBERS = {
        Integer.MIN_VALUE, Integer.MIN_VALUE + 1, -1073741825, -65536, -17, -2, -1, 0, 1, 2, 3, 4, 5, 6, 7, 8, 9,
        11, 12, 15, 16, 17, 99, 100, 499, 500, 501, 9999, 10000, 65536, 536870911, 536870912, 1073741823,
        1073741824, Integer.MAX_VALUE - 1, Integer.MAX_VALUE
    };
    private static final List<String> DOCUMENTED = Arrays.asList(
            "throws.IndexOutOfBoundsException", "throws.IllegalStateException", "throws.IllegalArgumentException",
            "throws.NoSuchElementException", "throws.UnsupportedOperationException", "throws.ArithmeticException");

    private final Random random;
    private final BinderyDesk desk = new BinderyDesk();

    private AnyArgumentsTest(int run) {
        random = new Random(run);
    }

    public static void main(String[] args) {
        for (int run = 0; run < 40; run++) {
            AnyArgumentsTest test = new AnyArgumentsTest(run);
            for (int i = 0; i < 20000; i++) {
                int kind = test.random.nextInt(27);
                String answer = Check.answerOf(() -> test.call(kind));
                if (answer.startsWith("throws.")) {
                    Check.due("exception of call " + kind, DOCUMENTED.contains(answer) ? "documented" : answer, "documented");
                }
            }
        }
        Check.finish("AnyArgumentsTest");
    }

    private int number() {
        return random.nextBoolean() ? random.nextInt(13) : NUMBERS[random.nextInt(NUMBERS.length)];
    }

    private char sign() {
        return random.nextInt(5) == 0 ? (char) random.nextInt(65536) : "spw".charAt(random.nextInt(3));
    }

    private Object call(int kind) {
        int a = random.nextInt(3) == 0 ? number() : random.nextInt(4);
        int b = number();
        int c = number();
        switch (kind) {
            case 0: return desk.addContent();
            case 1: return desk.approve(number());
            case 2: return desk.correct(random.nextInt(20) == 0 ? b : -1);
            case 3: return desk.state(number());
            case 4: return desk.addJob(sign());
            case 5: return desk.addPage(a, random.nextInt(20) == 0 ? b : -1);
            case 6: return desk.pages(a);
            case 7: return desk.sheets(a);
            case 8: return desk.pageAt(a, b, c);
            case 9: return desk.sheetOf(a, b);
            case 10: return desk.print(a, b, c);
            case 11: return desk.makeready(a, b);
            case 12: return desk.leastMakeready(a);
            case 13: return desk.leastByTrying(a);
            case 14: return desk.stock(a, b);
            case 15: return desk.plates();
            case 16: return desk.platesNeeded(a);
            case 17: return desk.bind(a, b);
            case 18: return desk.lacks(a, b);
            case 19: return desk.lots();
            case 20: return desk.copies(number());
            case 21: return desk.stateIn(b, c);
            case 22: return desk.stateByReplay(b, c);
            case 23: return desk.outdated(number());
            case 24: return desk.waste();
            case 25: return desk.wasteShare();
            default: return desk.meanMakeready();
        }
    }
}
