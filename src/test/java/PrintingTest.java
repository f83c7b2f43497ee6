import java.util.NoSuchElementException;

/** Promises 12 to 18: print, makeready, leastMakeready, leastByTrying, stock, plates, platesNeeded. */
public final class PrintingTest {
    private static final Class<NoSuchElementException> NONE = NoSuchElementException.class;

    public static void main(String[] args) {
        print();
        printRefuses();
        printAsksOnlyItsOwnProofs();
        printRefusesInOrder();
        stockLimit();
        makeready();
        leastMakeready();
        leastByTrying();
        stock();
        plates();
        platesNeeded();
        platesNeededOnTheLastSheet();
        Check.finish("PrintingTest");
    }

    private static void print() {
        BinderyDesk desk = Check.withContents(4);
        Check.approveAll(desk, 4);
        int wire = Check.job(desk, 'w', 0, 1, 0, 2, 3, 1, 1, 0);
        int other = Check.job(desk, 'w', 0, 1);
        int perfect = Check.job(desk, 'p', 1, 2, 3, 0);
        int saddle = Check.job(desk, 's', 1, 2, 3, 0);
        Check.due("first print", desk.print(wire, 0, 1), 55);
        Check.due("the same once more", desk.print(wire, 0, 500), 0);
        Check.due("another back", desk.print(wire, 1, 2), 20);
        Check.due("another front and back", desk.print(wire, 2, 2), 40);
        Check.due("another front", desk.print(wire, 0, 2), 20);
        Check.due("the same plates in the other places", desk.print(wire, 3, 2), 40);
        desk.print(wire, 0, 1);
        Check.due("the same plates for another job", desk.print(other, 0, 2), 0);
        Check.due("all is another one", desk.print(perfect, 0, 2), 55);
        Check.due("only the binding is another one", desk.print(saddle, 0, 2), 15);
        desk.correct(3);
        desk.approve(3);
        Check.due("the back in another state", desk.print(saddle, 0, 2), 20);
        Check.due("the binding and nothing else", desk.print(perfect, 0, 2), 15);
    }

    private static void printRefuses() {
        BinderyDesk desk = Check.withContents(4);
        int job = Check.job(desk, 'p', 0, 1, 2, 3);
        for (int missing = 0; missing < 4; missing++) {
            Check.refuses(desk, UnsupportedOperationException.class, "print, proof " + missing + " not approved",
                    () -> desk.print(job, 0, 1));
            desk.approve(missing);
        }
        desk.print(job, 0, 1);
        Check.refuses(desk, IllegalArgumentException.class, "print 0 times", () -> desk.print(job, 0, 0));
        Check.refuses(desk, IllegalArgumentException.class, "print -1 times", () -> desk.print(job, 0, -1));
        Check.refuses(desk, IllegalArgumentException.class, "print 501 times", () -> desk.print(job, 0, 501));
        Check.refuses(desk, NONE, "print sheet 1", () -> desk.print(job, 1, 1));
        Check.refuses(desk, NONE, "print sheet -1", () -> desk.print(job, -1, 1));
        Check.refuses(desk, IndexOutOfBoundsException.class, "print job 1", () -> desk.print(1, 0, 1));
        Check.refuses(desk, IndexOutOfBoundsException.class, "print job -1", () -> desk.print(-1, 0, 1));
        for (int again = 0; again < 4; again++) {
            int content = again;
            desk.correct(content);
            Check.refuses(desk, UnsupportedOperationException.class, "print, proof " + content + " corrected",
                    () -> desk.print(job, 0, 1));
            desk.approve(content);
        }
        desk.addPage(job, 0);
        Check.refuses(desk, IllegalStateException.class, "print, not complete", () -> desk.print(job, 0, 1));
    }

    private static void printAsksOnlyItsOwnProofs() {
        for (char binding : new char[] {'s', 'p', 'w'}) {
            BinderyDesk desk = Check.withContents(3);
            desk.approve(1);
            int job = desk.addJob(binding);
            int[] shown = binding == 's' ? new int[] {0, 0, 1, 1, 1, 1, 2, 2}
                    : binding == 'p' ? new int[] {0, 0, 0, 0, 1, 1, 1, 1, 2, 2, 2, 2} : new int[] {0, 0, 1, 1, 2, 2};
            for (int content : shown) {
                desk.addPage(job, content);
            }
            Check.due(binding + ": only the proofs of sheet 1 are approved", desk.print(job, 1, 1), 55);
            Check.refuses(desk, UnsupportedOperationException.class, "print sheet 0", () -> desk.print(job, 0, 1));
        }
    }

    private static void printRefusesInOrder() {
        BinderyDesk desk = Check.withContents(1);
        int complete = Check.job(desk, 'w', 0, 0);
        int empty = desk.addJob('w');
        Check.refuses(desk, IndexOutOfBoundsException.class, "print: no job first", () -> desk.print(2, 9, 0));
        Check.refuses(desk, IllegalStateException.class, "print: not complete first", () -> desk.print(empty, 9, 0));
        Check.refuses(desk, NONE, "print: no sheet first", () -> desk.print(complete, 9, 0));
        Check.refuses(desk, IllegalArgumentException.class, "print: range first", () -> desk.print(complete, 0, 0));
        Check.refuses(desk, UnsupportedOperationException.class, "print: proof", () -> desk.print(complete, 0, 1));
    }

    private static void stockLimit() {
        BinderyDesk desk = Check.withContents(1);
        desk.approve(0);
        int job = Check.job(desk, 'w', 0, 0, 0, 0);
        for (int i = 0; i < 19; i++) {
            desk.print(job, 0, 500);
        }
        Check.refuses(desk, UnsupportedOperationException.class, "print up to 10000", () -> desk.print(job, 0, 500));
        desk.print(job, 0, 498);
        Check.refuses(desk, UnsupportedOperationException.class, "print 2 behind 9998", () -> desk.print(job, 0, 2));
        Check.due("print 1 behind 9998", desk.print(job, 0, 1), 0);
        Check.refuses(desk, UnsupportedOperationException.class, "print 1 behind 9999", () -> desk.print(job, 0, 1));
        Check.due("print the other sheet", desk.print(job, 1, 500), 0);
        Check.due("stock(job, 0)", desk.stock(job, 0), 9999);
    }

    private static void makeready() {
        BinderyDesk desk = Check.withContents(3);
        int saddle = Check.job(desk, 's', 0, 1, 2, 1, 0, 0, 0, 0);
        int perfect = Check.job(desk, 'p', 0, 1, 2, 1, 0, 0, 0, 0);
        int wire = Check.job(desk, 'w', 0);
        Check.due("makeready, not approved", desk.makeready(saddle, 0), 55);
        Check.approveAll(desk, 3);
        desk.print(saddle, 0, 1);
        Check.due("makeready of the printed one", desk.makeready(saddle, 0), 0);
        Check.due("makeready of another front", desk.makeready(saddle, 1), 20);
        Check.due("makeready with another binding", desk.makeready(perfect, 0), 55);
        Check.due("makeready, sides by place", desk.makeready(perfect, 1), 35);
        desk.correct(1);
        Check.due("makeready behind a correction", desk.makeready(saddle, 0), 20);
        Check.due("makeready once more: looking changes nothing", desk.makeready(saddle, 0), 20);
        Check.refuses(desk, NONE, "makeready sheet 2", () -> desk.makeready(saddle, 2));
        Check.refuses(desk, NONE, "makeready sheet -1", () -> desk.makeready(saddle, -1));
        Check.refuses(desk, IllegalStateException.class, "makeready, not complete", () -> desk.makeready(wire, 9));
        Check.refuses(desk, IndexOutOfBoundsException.class, "makeready job 3", () -> desk.makeready(3, 9));
        Check.refuses(desk, IndexOutOfBoundsException.class, "makeready job -1", () -> desk.makeready(-1, 0));
    }

    private static void leastMakeready() {
        BinderyDesk desk = Check.withContents(4);
        int wire = Check.job(desk, 'w', 0, 1, 2, 3, 0, 3, 2, 1);
        int other = Check.job(desk, 'p', 0, 0, 0, 0);
        int eight = Check.job(desk, 'w', 0, 0, 1, 1, 2, 2, 3, 3, 0, 1, 1, 2, 2, 3, 3, 0);
        int empty = desk.addJob('s');
        Check.due("least in order 0, 2, 1, 3, not approved", desk.leastMakeready(wire), 115);
        Check.due("least of eight sheets", desk.leastMakeready(eight), 195);
        Check.approveAll(desk, 4);
        desk.print(wire, 1, 1);
        Check.due("least with one on the press", desk.leastMakeready(wire), 60);
        desk.print(other, 0, 1);
        Check.due("least with another binding", desk.leastMakeready(wire), 115);
        Check.due("least of the one on the press", desk.leastMakeready(other), 0);
        desk.correct(0);
        Check.due("least behind a correction", desk.leastMakeready(other), 40);
        Check.refuses(desk, IllegalStateException.class, "least, not complete", () -> desk.leastMakeready(empty));
        Check.refuses(desk, IndexOutOfBoundsException.class, "least job 4", () -> desk.leastMakeready(4));
        Check.refuses(desk, IndexOutOfBoundsException.class, "least job -1", () -> desk.leastMakeready(-1));
    }

    private static void leastByTrying() {
        BinderyDesk desk = Check.withContents(4);
        // The sheet (1, 0) shares no side with any other one.
        int six = Check.job(desk, 'w', 0, 1, 2, 3, 0, 3, 2, 1, 1, 0, 3, 3);
        int seven = Check.job(desk, 'w', 0, 1, 2, 3, 0, 3, 2, 1, 0, 0, 3, 3, 0, 1);
        int empty = desk.addJob('s');
        Check.due("trying six sheets", desk.leastByTrying(six), 175);
        Check.due("the same by sets", desk.leastMakeready(six), 175);
        Check.approveAll(desk, 4);
        desk.print(six, 5, 1);
        Check.due("trying from the press", desk.leastByTrying(six), 120);
        Check.due("the same by sets", desk.leastMakeready(six), 120);
        Check.refuses(desk, UnsupportedOperationException.class, "trying 7", () -> desk.leastByTrying(seven));
        Check.due("7 sheets, complete", desk.sheets(seven), 7);
        Check.refuses(desk, IllegalStateException.class, "trying, not complete", () -> desk.leastByTrying(empty));
        desk.addPage(seven, 0);
        Check.refuses(desk, IllegalStateException.class, "trying 15 pages", () -> desk.leastByTrying(seven));
        desk.addPage(seven, 0);
        Check.refuses(desk, UnsupportedOperationException.class, "trying 8", () -> desk.leastByTrying(seven));
        Check.refuses(desk, IndexOutOfBoundsException.class, "trying job 3", () -> desk.leastByTrying(3));
        Check.refuses(desk, IndexOutOfBoundsException.class, "trying job -1", () -> desk.leastByTrying(-1));
    }

    private static void stock() {
        BinderyDesk desk = Check.withContents(1);
        desk.approve(0);
        int job = Check.job(desk, 'w', 0, 0, 0, 0);
        int empty = desk.addJob('p');
        Check.due("stock at first", desk.stock(job, 1), 0);
        desk.print(job, 1, 7);
        desk.print(job, 1, 5);
        desk.print(job, 0, 4);
        Check.due("stock(job, 1)", desk.stock(job, 1), 12);
        Check.due("stock(job, 0)", desk.stock(job, 0), 4);
        desk.bind(job, 3);
        Check.due("stock(job, 1) behind bind", desk.stock(job, 1), 9);
        Check.due("stock(job, 0) behind bind", desk.stock(job, 0), 1);
        Check.refuses(desk, NONE, "stock sheet 2", () -> desk.stock(job, 2));
        Check.refuses(desk, NONE, "stock sheet -1", () -> desk.stock(job, -1));
        Check.refuses(desk, IllegalStateException.class, "stock, not complete", () -> desk.stock(empty, 9));
        Check.refuses(desk, IndexOutOfBoundsException.class, "stock job 2", () -> desk.stock(2, 9));
        Check.refuses(desk, IndexOutOfBoundsException.class, "stock job -1", () -> desk.stock(-1, 0));
    }

    private static void plates() {
        BinderyDesk desk = Check.withContents(3);
        Check.approveAll(desk, 3);
        int wire = Check.job(desk, 'w', 0, 0, 0, 1);
        int perfect = Check.job(desk, 'p', 0, 1, 1, 0);
        int saddle = Check.job(desk, 's', 0, 0, 0, 0);
        desk.print(wire, 0, 5);
        Check.due("one plate for both sides", desk.plates(), 1);
        desk.print(wire, 1, 5);
        Check.due("one more", desk.plates(), 2);
        desk.print(perfect, 0, 5);
        Check.due("two contents in either order: front (0, 0), back (1, 1)", desk.plates(), 4);
        desk.print(saddle, 0, 5);
        Check.due("front (0, 0) and back (0, 0) were made", desk.plates(), 4);
        desk.correct(0);
        desk.approve(0);
        Check.due("corrections make none", desk.plates(), 4);
        desk.print(wire, 1, 5);
        Check.due("0 in its new state, 1 as it was", desk.plates(), 5);
        desk.print(wire, 1, 5);
        desk.print(wire, 0, 5);
        desk.print(saddle, 0, 5);
        Check.due("(0, 0) in the new state", desk.plates(), 6);
        desk.correct(1);
        desk.approve(1);
        desk.print(wire, 0, 5);
        Check.due("a content that is not shown", desk.plates(), 6);
        int turned = Check.job(desk, 'p', 1, 2, 1, 0);
        desk.print(turned, 0, 1);
        Check.due("front (0, 1), back (2, 1)", desk.plates(), 8);
        desk.addPage(turned, 1);
        desk.addPage(turned, 2);
        desk.addPage(turned, 1);
        desk.addPage(turned, 0);
        desk.print(turned, 1, 1);
        Check.due("the same once more", desk.plates(), 8);
    }

    private static void platesNeeded() {
        BinderyDesk desk = Check.withContents(4);
        int wire = Check.job(desk, 'w', 0, 1, 1, 0, 0, 0, 2, 3);
        int perfect = Check.job(desk, 'p', 1, 2, 2, 0, 2, 1, 0, 2);
        int empty = desk.addJob('s');
        int long16 = Check.job(desk, 'w', 0, 1, 2, 3, 0, 1, 2, 3, 3, 2, 1, 0, 3, 2, 1, 0);
        Check.due("of 16 sides", desk.platesNeeded(long16), 4);
        Check.due("each one counted once, not approved", desk.platesNeeded(wire), 4);
        Check.due("(0, 1), (2, 2), (2, 2), (1, 0)", desk.platesNeeded(perfect), 3);
        Check.approveAll(desk, 4);
        desk.print(wire, 0, 1);
        Check.due("two were made", desk.platesNeeded(wire), 2);
        Check.due("none with two contents was made", desk.platesNeeded(perfect), 3);
        desk.correct(0);
        Check.due("0 is another one", desk.platesNeeded(wire), 3);
        desk.approve(0);
        desk.print(perfect, 0, 1);
        Check.due("(1, 0) lacks", desk.platesNeeded(perfect), 1);
        desk.print(perfect, 1, 1);
        Check.due("none lacks", desk.platesNeeded(perfect), 0);
        Check.refuses(desk, IllegalStateException.class, "needed, not complete", () -> desk.platesNeeded(empty));
        Check.refuses(desk, IndexOutOfBoundsException.class, "needed job 4", () -> desk.platesNeeded(4));
        Check.refuses(desk, IndexOutOfBoundsException.class, "needed job -1", () -> desk.platesNeeded(-1));
    }

    private static void platesNeededOnTheLastSheet() {
        BinderyDesk desk = Check.withContents(8);
        int job = Check.job(desk, 'p', 1, 1, 1, 0, 2, 2, 2, 0, 3, 3, 3, 0, 5, 4, 5, 4);
        Check.due("front and back alike on the last sheet", desk.platesNeeded(job), 7);
    }
}
