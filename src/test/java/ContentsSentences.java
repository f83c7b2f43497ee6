/** The sentences of promises 1 to 5: a new object, addContent, approve, correct, state. */
final class ContentsSentences {
    private ContentsSentences() {
    }

    static void test(Sentences sentences) {
        sentences.section("Promise 1: A new object");
        sentences.holds("Creates a shop without contents and jobs.", ContentsSentences::newShopIsEmpty);
        sentences.holds("Creates a shop without contents and jobs.", ContentsSentences::newShopIsItsOwn);
        addContent(sentences);
        approve(sentences);
        correct(sentences);
        state(sentences);
    }

    private static void addContent(Sentences sentences) {
        sentences.section("Promise 2: addContent");
        sentences.holds("Adds a content.", ContentsSentences::addContentAddsOne);
        sentences.holds("Returns the number of the content.", ContentsSentences::addContentTellsNumber);
        sentences.holds("Throws `IllegalStateException` if there are 12 contents", ContentsSentences::addContentIsFull);
    }

    private static void approve(Sentences sentences) {
        sentences.section("Promise 3: approve");
        sentences.holds("Approves the proof of a content.", ContentsSentences::approveLetsPrint);
        sentences.holds("Returns whether it was approved before.", ContentsSentences::approveTellsBefore);
        sentences.holds("Throws `IndexOutOfBoundsException` if there is no such content",
                () -> Edges.noSuchContent(BinderyDesk::approve));
    }

    private static void correct(Sentences sentences) {
        sentences.section("Promise 4: correct");
        sentences.holds("Corrects a content.", ContentsSentences::correctChangesOneContent);
        sentences.holds("Returns the number of sheets in stock that are void by this.", ContentsSentences::correctTellsVoid);
        sentences.holds("Returns the number of sheets in stock that are void by this.", ContentsSentences::correctTellsManyVoid);
        sentences.holds("Throws `IndexOutOfBoundsException` if there is no such content",
                () -> Edges.noSuchContent(BinderyDesk::correct));
        sentences.holds("Throws `IllegalStateException` if its state is 99", ContentsSentences::correctAtTheLastState);
    }

    private static void state(Sentences sentences) {
        sentences.section("Promise 5: state");
        sentences.holds("Returns the state of a content.", ContentsSentences::stateOfEachContent);
        sentences.holds("Returns the state.", ContentsSentences::stateFromFirstToLast);
        sentences.holds("Throws `IndexOutOfBoundsException` if there is no such content",
                () -> Edges.noSuchContent(BinderyDesk::state));
    }

    // ---- a new object

    private static void newShopIsEmpty() {
        Twins.Beginning nothing = desk -> { };
        Edges.refuseAll(Edges.INDEX, "new state", nothing, BinderyDesk::state, Edges.outside(0));
        Edges.refuseAll(Edges.INDEX, "new pages", nothing, BinderyDesk::pages, Edges.outside(0));
        Edges.refuseAll(Edges.INDEX, "new copies", nothing, BinderyDesk::copies, Edges.outside(0));
        BinderyDesk desk = new BinderyDesk();
        Check.due("lots()", desk.lots(), 0);
        Check.due("plates()", desk.plates(), 0);
        Check.due("waste()", desk.waste(), 0L);
        Check.due("first addContent()", desk.addContent(), 0);
        Check.due("first addJob('s')", desk.addJob('s'), 0);
    }

    private static void newShopIsItsOwn() {
        BinderyDesk before = new BinderyDesk();
        String empty = Check.look(new BinderyDesk());
        Shops.busy(new BinderyDesk());
        Check.dueText("a shop made before a busy one", Check.look(before), empty);
        Check.dueText("a shop made behind a busy one", Check.look(new BinderyDesk()), empty);
    }

    // ---- addContent

    private static void addContentAddsOne() {
        BinderyDesk desk = new BinderyDesk();
        for (int there = 0; there < 12; there++) {
            int next = there;
            Check.due("state before it is added", Check.answerOf(() -> desk.state(next)), "throws.IndexOutOfBoundsException");
            desk.addContent();
            Check.due("state of the new one", desk.state(next), 0);
            Check.due("outdated of the new one", desk.outdated(next), 0);
            for (int older = 0; older < next; older++) {
                Check.due("state of an older one", desk.state(older), older + 1);
            }
            for (int i = 0; i <= next; i++) {
                desk.correct(next);
            }
        }
    }

    private static void addContentTellsNumber() {
        BinderyDesk desk = new BinderyDesk();
        for (int number = 0; number < 12; number++) {
            Check.due("addContent()", desk.addContent(), number);
            Check.answerOf(() -> desk.addJob('w'));
            Check.answerOf(() -> desk.addPage(0, 99));
        }
    }

    private static void addContentIsFull() {
        BinderyDesk eleven = Check.withContents(11);
        Check.due("the 12th addContent()", eleven.addContent(), 11);
        Twins.refuse(Edges.STATE, "the 13th addContent()", desk -> Shops.withContents(desk, 12), BinderyDesk::addContent);
        Twins.refuse(Edges.STATE, "the 13th addContent()", desk -> Shops.withContents(desk, 12, true), BinderyDesk::addContent);
        Twins.Beginning corrected = desk -> {
            Shops.statesByNumber(desk);
            desk.correct(0);
            desk.correct(11);
        };
        Twins.refuse(Edges.STATE, "the 13th addContent()", corrected, BinderyDesk::addContent);
    }

    // ---- approve

    private static void approveLetsPrint() {
        for (int content = 0; content < 12; content++) {
            BinderyDesk desk = Check.withContents(12);
            int own = Check.job(desk, 'w', content, content);
            int next = Check.job(desk, 'w', (content + 1) % 12, (content + 1) % 12);
            Twins.Asked print = shop -> shop.print(own, 0, 1);
            Check.due("print before", Check.answerOf(() -> print.of(desk)), "throws.UnsupportedOperationException");
            desk.approve(content);
            Check.due("print behind", Check.answerOf(() -> print.of(desk)), "55");
            Check.due("print of another content", Check.answerOf(() -> desk.print(next, 0, 1)),
                    "throws.UnsupportedOperationException");
            Check.due("state", desk.state(content), 0);
        }
    }

    private static void approveTellsBefore() {
        BinderyDesk desk = Check.withContents(12);
        for (int content = 0; content < 12; content++) {
            Check.due("approve at first", desk.approve(content), false);
            Check.due("approve again", desk.approve(content), true);
            Check.due("approve once more", desk.approve(content), true);
            desk.correct(content);
            Check.due("approve behind a correction", desk.approve(content), false);
            Check.due("approve again", desk.approve(content), true);
            desk.correct(content);
            desk.correct(content);
            Check.due("approve behind two corrections", desk.approve(content), false);
        }
        for (int content = 0; content < 12; content++) {
            Check.due("approve, all are", desk.approve(content), true);
        }
    }

    // ---- correct

    private static void correctChangesOneContent() {
        for (int corrected = 0; corrected < 12; corrected++) {
            BinderyDesk desk = Check.withContents(12);
            Check.approveAll(desk, 12);
            desk.correct(corrected);
            for (int content = 0; content < 12; content++) {
                Check.due("state", desk.state(content), content == corrected ? 1 : 0);
                Check.due("approve", desk.approve(content), content != corrected);
            }
        }
    }

    private static void correctTellsVoid() {
        BinderyDesk desk = Check.withContents(6);
        Check.due("correct without jobs", desk.correct(0), 0);
        Check.approveAll(desk, 6);
        int saddle = Check.job(desk, 's', 0, 1, 1, 0, 2, 2, 2, 0);
        int perfect = Check.job(desk, 'p', 3, 3, 3, 0);
        int wire = Check.job(desk, 'w', 0, 0, 4, 4);
        Check.job(desk, 'w', 0);
        Check.due("correct without stock", desk.correct(5), 0);
        desk.print(saddle, 0, 1);
        Check.due("one sheet", desk.correct(1), 1);
        desk.approve(1);
        Check.due("none is left", desk.correct(1), 0);
        desk.approve(1);
        desk.print(saddle, 0, 300);
        desk.print(saddle, 1, 200);
        desk.print(perfect, 0, 70);
        desk.print(wire, 0, 8);
        desk.print(wire, 1, 500);
        desk.bind(wire, 3);
        Check.due("on four sheets of three jobs, each counted once", desk.correct(0), 300 + 200 + 70 + 5);
        Check.due("none is left", desk.correct(2), 0);
        Check.due("what does not show the others", desk.correct(4), 497);
        Check.due("waste()", desk.waste(), 1L + 575 + 497);
    }

    private static void correctTellsManyVoid() {
        BinderyDesk desk = Check.withContents(1);
        desk.approve(0);
        int job = Shops.plainJob(desk, 'w', 16);
        for (int sheet = 0; sheet < 8; sheet++) {
            for (int i = 0; i < 19; i++) {
                desk.print(job, sheet, 500);
            }
            desk.print(job, sheet, 499);
        }
        Check.due("eight full piles", desk.correct(0), 79992);
        Check.due("waste()", desk.waste(), 79992L);
    }

    private static void correctAtTheLastState() {
        BinderyDesk desk = Check.withContents(2);
        for (int state = 0; state < 98; state++) {
            desk.correct(1);
        }
        Check.due("state(1)", desk.state(1), 98);
        Check.due("correct at 98", desk.correct(1), 0);
        Check.due("state(1)", desk.state(1), 99);
        Check.due("correct the other content", desk.correct(0), 0);
        Twins.refuse(Edges.STATE, "correct at 99", shop -> atTheLastState(shop, false), shop -> shop.correct(1));
        Twins.refuse(Edges.STATE, "correct at 99, approved and in stock", shop -> atTheLastState(shop, true), shop -> shop.correct(1));
    }

    private static void atTheLastState(BinderyDesk desk, boolean printed) {
        Shops.withContents(desk, 3);
        for (int state = desk.state(1); state < 99; state++) {
            desk.correct(1);
        }
        if (printed) {
            desk.approve(1);
            int job = Check.job(desk, 'w', 1, 0);
            desk.print(job, 0, 30);
            desk.bind(job, 4);
        }
    }

    // ---- state

    private static void stateOfEachContent() {
        BinderyDesk desk = new BinderyDesk();
        Shops.statesByNumber(desk);
        for (int content = 0; content < 12; content++) {
            Check.due("state(" + content + ")", desk.state(content), content);
        }
    }

    private static void stateFromFirstToLast() {
        BinderyDesk desk = Check.withContents(12);
        for (int state = 0; state <= 99; state++) {
            Check.due("state(11)", desk.state(11), state);
            Check.due("state(10)", desk.state(10), 0);
            desk.approve(11);
            Check.due("state(11), approved", desk.state(11), state);
            if (state < 99) {
                desk.correct(11);
            }
        }
    }
}
