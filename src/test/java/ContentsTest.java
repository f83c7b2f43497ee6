/** Promises 1 to 5: a new object, addContent, approve, correct, state. */
public final class ContentsTest {
    public static void main(String[] args) {
        newObject();
        addContent();
        approve();
        correct();
        correctVoidsSheets();
        correctVoidsByEveryPlace('s', 3, 0, 1, 2);
        correctVoidsByEveryPlace('p', 3, 0, 1, 2);
        correctVoidsByEveryPlace('w', 0, 1);
        state();
        Check.finish("ContentsTest");
    }

    private static void newObject() {
        BinderyDesk desk = new BinderyDesk();
        Check.due("new lots()", desk.lots(), 0);
        Check.due("new plates()", desk.plates(), 0);
        Check.due("new waste()", desk.waste(), 0L);
        Check.refuses(desk, IndexOutOfBoundsException.class, "new state(0)", () -> desk.state(0));
        Check.refuses(desk, IndexOutOfBoundsException.class, "new pages(0)", () -> desk.pages(0));
        Check.refuses(desk, IndexOutOfBoundsException.class, "new copies(0)", () -> desk.copies(0));
        Check.refuses(desk, ArithmeticException.class, "new wasteShare()", desk::wasteShare);
        Check.refuses(desk, ArithmeticException.class, "new meanMakeready()", desk::meanMakeready);
    }

    private static void addContent() {
        BinderyDesk desk = new BinderyDesk();
        for (int i = 0; i < 12; i++) {
            Check.due("addContent()", desk.addContent(), i);
            Check.due("state of a new one", desk.state(i), 0);
        }
        Check.refuses(desk, IllegalStateException.class, "13th addContent()", desk::addContent);
        Check.due("approve(11) at first", desk.approve(11), false);
    }

    private static void approve() {
        BinderyDesk desk = Check.withContents(2);
        Check.due("approve(0)", desk.approve(0), false);
        Check.due("approve(0) again", desk.approve(0), true);
        Check.due("approve(1)", desk.approve(1), false);
        Check.refuses(desk, IndexOutOfBoundsException.class, "approve(2)", () -> desk.approve(2));
        Check.refuses(desk, IndexOutOfBoundsException.class, "approve(-1)", () -> desk.approve(-1));
        desk.correct(0);
        Check.due("approve(0) after correct", desk.approve(0), false);
        Check.due("approve(1) after correct(0)", desk.approve(1), true);
        Check.due("state after approve", desk.state(0), 1);
    }

    private static void correct() {
        BinderyDesk desk = Check.withContents(2);
        for (int i = 1; i <= 99; i++) {
            Check.due("correct(1) without stock", desk.correct(1), 0);
            Check.due("state(1)", desk.state(1), i);
        }
        desk.approve(1);
        Check.refuses(desk, IllegalStateException.class, "correct(1) at 99", () -> desk.correct(1));
        Check.due("approval after a correct that threw", desk.approve(1), true);
        Check.refuses(desk, IndexOutOfBoundsException.class, "correct(2)", () -> desk.correct(2));
        Check.refuses(desk, IndexOutOfBoundsException.class, "correct(-1)", () -> desk.correct(-1));
        Check.due("the other state", desk.state(0), 0);
        Check.due("correct(0)", desk.correct(0), 0);
    }

    private static void correctVoidsSheets() {
        BinderyDesk desk = Check.withContents(4);
        Check.approveAll(desk, 4);
        int wire = Check.job(desk, 'w', 0, 0, 1, 2, 3, 0);
        int perfect = Check.job(desk, 'p', 2, 1, 2, 2);
        desk.print(wire, 0, 10);
        desk.print(wire, 1, 20);
        desk.print(wire, 2, 40);
        desk.print(perfect, 0, 80);
        Check.due("correct(0), shown twice on sheet 0", desk.correct(0), 50);
        Check.due("stock(wire, 0)", desk.stock(wire, 0), 0);
        Check.due("stock(wire, 1)", desk.stock(wire, 1), 20);
        Check.due("stock(wire, 2)", desk.stock(wire, 2), 0);
        Check.due("stock(perfect, 0)", desk.stock(perfect, 0), 80);
        Check.due("waste()", desk.waste(), 50L);
        Check.due("correct(2) in both jobs", desk.correct(2), 100);
        Check.due("waste()", desk.waste(), 150L);
        Check.due("correct(2) again", desk.correct(2), 0);
        Check.due("correct(3)", desk.correct(3), 0);
        Check.due("waste()", desk.waste(), 150L);
    }

    /** One sheet shows these contents in its places, in this order, and the other sheet shows 4 alone. */
    private static void correctVoidsByEveryPlace(char binding, int... places) {
        for (int place = 0; place < places.length; place++) {
            BinderyDesk desk = Check.withContents(5);
            Check.approveAll(desk, 5);
            int job = desk.addJob(binding);
            int sheet = binding == 's' ? 1 : 0;
            int[] shown = binding == 's' ? new int[] {4, 4, 0, 1, 2, 3, 4, 4}
                    : binding == 'p' ? new int[] {0, 1, 2, 3, 4, 4, 4, 4} : new int[] {0, 1, 4, 4};
            for (int content : shown) {
                desk.addPage(job, content);
            }
            desk.print(job, sheet, 30);
            desk.print(job, 1 - sheet, 500);
            Check.due(binding + ": correct what place " + place + " shows", desk.correct(places[place]), 30);
            Check.due(binding + ": stock of this sheet", desk.stock(job, sheet), 0);
            Check.due(binding + ": stock of the other sheet", desk.stock(job, 1 - sheet), 500);
        }
    }

    private static void state() {
        BinderyDesk desk = Check.withContents(3);
        desk.correct(2);
        desk.correct(2);
        desk.correct(0);
        Check.due("state(0)", desk.state(0), 1);
        Check.due("state(1)", desk.state(1), 0);
        Check.due("state(2)", desk.state(2), 2);
        Check.refuses(desk, IndexOutOfBoundsException.class, "state(3)", () -> desk.state(3));
        Check.refuses(desk, IndexOutOfBoundsException.class, "state(-1)", () -> desk.state(-1));
    }
}
