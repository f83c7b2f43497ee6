import java.util.HashSet;
import java.util.Random;
import java.util.Set;

/** The sentences of promises 12 to 18: print, makeready, leastMakeready, leastByTrying, stock, plates, platesNeeded. */
final class PrintingSentences {
    private static final String NO_JOB = "Throws `IndexOutOfBoundsException` if there is no such job";
    private static final String NOT_COMPLETE = "Throws `IllegalStateException` if the job is not complete";
    private static final String NO_SHEET = "Throws `NoSuchElementException` if there is no such sheet";

    private PrintingSentences() {
    }

    static void test(Sentences sentences) {
        print(sentences);
        makeready(sentences);
        leastMakeready(sentences);
        leastByTrying(sentences);
        stock(sentences);
        plates(sentences);
    }

    private static void print(Sentences sentences) {
        sentences.section("Promise 12: print");
        sentences.holds("Prints a sheet.", PrintingSentences::printPutsInStock);
        sentences.holds("- `count`: how many times, 1 to 500", PrintingSentences::printCounts);
        sentences.holds("Returns the makeready in minutes.", PrintingSentences::printTellsEachMakeready);
        sentences.holds(NO_JOB, () -> Edges.noSuchJob((desk, job) -> desk.print(job, 0, 1)));
        sentences.holds(NOT_COMPLETE, () -> Edges.notComplete(desk -> desk.print(0, 0, 1)));
        sentences.holds(NO_SHEET, () -> Edges.noSuchSheet((desk, sheet) -> desk.print(0, sheet, 1)));
        sentences.holds("Throws `IllegalArgumentException` if the number is out of range",
                () -> Edges.outOfRange((desk, count) -> desk.print(0, 0, count)));
        String refused = "Throws `UnsupportedOperationException` if the proof of one of its contents is not approved, "
                + "or there would be more than 9999 of this sheet in stock";
        sentences.holds(refused, PrintingSentences::printNeedsEachProof);
        sentences.holds(refused, PrintingSentences::printStopsAt9999);
    }

    private static void makeready(Sentences sentences) {
        sentences.section("Promise 13: makeready");
        sentences.holds("Returns the makeready that a sheet would have now.", PrintingSentences::makereadyIsWhatPrintTells);
        sentences.holds("Returns the makeready in minutes, also if it cannot be printed.", PrintingSentences::makereadyOfTheUnprintable);
        sentences.holds(NO_JOB, () -> Edges.noSuchJob((desk, job) -> desk.makeready(job, 0)));
        sentences.holds(NOT_COMPLETE, () -> Edges.notComplete(desk -> desk.makeready(0, 0)));
        sentences.holds(NO_SHEET, () -> Edges.noSuchSheet((desk, sheet) -> desk.makeready(0, sheet)));
    }

    private static void leastMakeready(Sentences sentences) {
        sentences.section("Promise 14: leastMakeready");
        String least = "Returns the least makeready to print all sheets of a job, each one once, one behind the other "
                + "in any order, from what is on the press now, found for all sets of sheets.";
        sentences.holds(least, () -> leastOfOneSheet(BinderyDesk::leastMakeready));
        sentences.holds(least, () -> leastOfChain(BinderyDesk::leastMakeready, 8));
        sentences.holds(least, () -> leastFromThePress(BinderyDesk::leastMakeready));
        sentences.holds(least, () -> leastOfManyJobs(BinderyDesk::leastMakeready, 8));
        sentences.holds("Returns the sum of the makeready in minutes, also if some of them cannot be printed.",
                () -> leastOfTheUnprintable(BinderyDesk::leastMakeready));
        sentences.holds(NO_JOB, () -> Edges.noSuchJob(BinderyDesk::leastMakeready));
        sentences.holds(NOT_COMPLETE, () -> Edges.notComplete(desk -> desk.leastMakeready(0)));
    }

    private static void leastByTrying(Sentences sentences) {
        sentences.section("Promise 15: leastByTrying");
        String same = "Returns the same sum, found by trying all orders.";
        sentences.holds(same, () -> leastOfOneSheet(BinderyDesk::leastByTrying));
        sentences.holds(same, () -> leastOfChain(BinderyDesk::leastByTrying, 6));
        sentences.holds(same, () -> leastFromThePress(BinderyDesk::leastByTrying));
        sentences.holds(same, () -> leastOfManyJobs(BinderyDesk::leastByTrying, 6));
        sentences.holds("Returns the sum of the makeready in minutes.",
                () -> leastOfTheUnprintable(BinderyDesk::leastByTrying));
        sentences.holds(NO_JOB, () -> Edges.noSuchJob(BinderyDesk::leastByTrying));
        sentences.holds(NOT_COMPLETE, () -> Edges.notComplete(desk -> desk.leastByTrying(0)));
        sentences.holds("Throws `UnsupportedOperationException` if it has more than 6 sheets", PrintingSentences::tryingSixSheets);
    }

    private static void stock(Sentences sentences) {
        sentences.section("Promise 16: stock");
        sentences.holds("Returns how many sheets are in stock.", PrintingSentences::stockOfEachSheet);
        sentences.holds("Returns how many of this sheet are in stock.", PrintingSentences::stockFromNoneToAll);
        sentences.holds(NO_JOB, () -> Edges.noSuchJob((desk, job) -> desk.stock(job, 0)));
        sentences.holds(NOT_COMPLETE, () -> Edges.notComplete(desk -> desk.stock(0, 0)));
        sentences.holds(NO_SHEET, () -> Edges.noSuchSheet((desk, sheet) -> desk.stock(0, sheet)));
    }

    private static void plates(Sentences sentences) {
        sentences.section("Promise 17: plates");
        sentences.holds("Returns how many plates were made.", PrintingSentences::platesThatWereMade);
        sentences.holds("Returns the number of plates.", PrintingSentences::manyPlates);
        sentences.section("Promise 18: platesNeeded");
        sentences.holds("Returns how many plates that were not made yet a job needs to be printed as its contents are now.",
                PrintingSentences::neededAsContentsAreNow);
        sentences.holds("Returns the number of plates, each one counted once.", PrintingSentences::neededOnce);
        sentences.holds("Returns the number of plates, each one counted once.", PrintingSentences::neededOfAllSides);
        sentences.holds("Returns the number of plates, each one counted once.", PrintingSentences::neededWithTwoAlike);
        sentences.holds("Returns the number of plates, each one counted once.", PrintingSentences::neededOfManyJobs);
        sentences.holds(NO_JOB, () -> Edges.noSuchJob(BinderyDesk::platesNeeded));
        sentences.holds(NOT_COMPLETE, () -> Edges.notComplete(desk -> desk.platesNeeded(0)));
    }

    // ---- print

    private static void printPutsInStock() {
        for (char binding : Edges.BINDINGS) {
            for (int printed = 0; printed < 16 / Edges.places(binding); printed++) {
                BinderyDesk desk = Check.withContents(1);
                desk.approve(0);
                int job = Shops.plainJob(desk, binding, 16);
                int other = Shops.plainJob(desk, binding, 16);
                desk.print(job, printed, 3);
                for (int sheet = 0; sheet < 16 / Edges.places(binding); sheet++) {
                    Check.due("stock", desk.stock(job, sheet), sheet == printed ? 3 : 0);
                    Check.due("stock of the other job", desk.stock(other, sheet), 0);
                }
                Check.due("plates()", desk.plates(), 1);
                Check.due("makeready again", desk.makeready(job, printed), 0);
                Check.due("meanMakeready()", desk.meanMakeready(), 55.0);
                Check.due("waste()", desk.waste(), 0L);
            }
        }
    }

    private static void printCounts() {
        BinderyDesk desk = Check.withContents(1);
        desk.approve(0);
        int job = Shops.plainJob(desk, 'w', 2);
        int due = 0;
        for (int count : new int[] {1, 500, 2, 499, 1, 255, 256, 257}) {
            desk.print(job, 0, count);
            due += count;
            Check.due("stock behind " + count + " more", desk.stock(job, 0), due);
        }
        desk.correct(0);
        Check.due("all are waste", desk.waste(), (long) due);
        Check.due("share of all", desk.wasteShare(), 1.0f);
    }

    /**
     * The perfect job's sheets have front (0, 1) and back (2, 3), then another back, then another front, then
     * the first one's plates in the other places; the saddle job has the first one of them.
     */
    private static void sidesInTwoBindings(BinderyDesk desk) {
        Shops.withFour(desk);
        Check.job(desk, 's', 1, 2, 3, 0);
        Check.job(desk, 'p', 1, 2, 3, 0, 1, 1, 0, 0, 0, 2, 3, 1, 3, 0, 1, 2);
    }

    private static void printTellsEachMakeready() {
        Twins.Beginning nothing = PrintingSentences::sidesInTwoBindings;
        duePrints("nothing on the press", nothing, 1, 55, 55, 55, 55);
        Twins.Beginning saddle = desk -> {
            sidesInTwoBindings(desk);
            desk.print(0, 0, 1);
        };
        duePrints("saddle stitch on the press", saddle, 1, 15, 35, 35, 55);
        duePrints("the same sheet on the press", saddle, 0, 0);
        Twins.Beginning perfect = desk -> {
            sidesInTwoBindings(desk);
            desk.print(1, 0, 1);
        };
        duePrints("perfect binding on the press", perfect, 1, 0, 20, 20, 40);
        duePrints("perfect binding on the press", perfect, 0, 15);
        Twins.Beginning turned = desk -> {
            sidesInTwoBindings(desk);
            desk.print(1, 3, 1);
        };
        duePrints("the same plates in the other places", turned, 1, 40, 40, 40, 0);
    }

    private static void duePrints(String what, Twins.Beginning beginning, int job, int... due) {
        for (int i = 0; i < due.length; i++) {
            int sheet = i;
            BinderyDesk desk = Twins.begun(beginning);
            Check.due(what + ", print of sheet " + sheet, desk.print(job, sheet, 500), due[sheet]);
            Check.due(what + ", print of it again", desk.print(job, sheet, 1), 0);
        }
    }

    private static void printNeedsEachProof() {
        for (char binding : Edges.BINDINGS) {
            int places = Edges.places(binding);
            for (int sheet = 0; sheet < 3; sheet++) {
                for (int place = 0; place < places; place++) {
                    printNeedsProofIn(binding, sheet, place);
                }
            }
        }
    }

    /** Every page has a content of its own; only one page of the sheet is not approved, then corrected. */
    private static void printNeedsProofIn(char binding, int sheet, int place) {
        int pages = 3 * Edges.places(binding);
        int missing = JobsSentences.table(binding, pages)[sheet][place] - 1;
        String what = "print of sheet " + sheet + " of " + binding + ", place " + place;
        Twins.Beginning never = desk -> ownContents(desk, binding, pages, missing);
        Twins.refuse(Edges.REFUSED, what + " never approved", never, desk -> desk.print(0, sheet, 1));
        Twins.Beginning corrected = desk -> {
            ownContents(desk, binding, pages, -1);
            Shops.printEach(desk, 0, 9);
            desk.correct(missing);
        };
        Twins.refuse(Edges.REFUSED, what + " corrected", corrected, desk -> desk.print(0, sheet, 1));
        BinderyDesk others = Twins.begun(never);
        for (int other = 0; other < 3; other++) {
            if (other != sheet) {
                Check.due(what + ": another sheet", others.print(0, other, 1) >= 0, true);
            }
        }
        others.approve(missing);
        Check.due(what + " approved", others.print(0, sheet, 1) >= 20, true);
    }

    private static void ownContents(BinderyDesk desk, char binding, int pages, int notApproved) {
        int job = desk.addJob(binding);
        for (int content = 0; content < pages; content++) {
            desk.addContent();
            desk.addPage(job, content);
            if (content != notApproved) {
                desk.approve(content);
            }
        }
    }

    private static void printStopsAt9999() {
        for (int left : new int[] {0, 1, 2, 499}) {
            Twins.Beginning beginning = desk -> almostFull(desk, 9999 - left);
            Twins.refuse(Edges.REFUSED, "print of one too many behind " + (9999 - left), beginning,
                    desk -> desk.print(0, 1, left + 1));
            Twins.Beginning other = desk -> {
                almostFull(desk, 9999 - left);
                desk.print(Check.job(desk, 'w', 1, 1), 0, 1);
            };
            Twins.refuse(Edges.REFUSED, "print of 500 behind " + (9999 - left), other, desk -> desk.print(0, 1, 500));
            BinderyDesk desk = Twins.begun(beginning);
            if (left > 0) {
                Check.due("print of the last ones", desk.print(0, 1, left), 0);
            }
            Check.due("stock", desk.stock(0, 1), 9999);
            Check.due("print of the other sheet", desk.print(0, 0, 500), 0);
            desk.bind(0, 300);
            Check.due("print behind binding", desk.print(0, 1, 300), 0);
            Check.due("stock", desk.stock(0, 1), 9999);
            desk.correct(0);
            desk.approve(0);
            Check.due("print behind a correction", desk.print(0, 1, 500), 40);
        }
        BinderyDesk full = Twins.begun(desk -> almostFull(desk, 9499));
        Check.due("print of 500 behind 9499", full.print(0, 1, 500), 0);
    }

    /** Job 0 has two sheets, of which sheet 1 has as many in stock. */
    private static void almostFull(BinderyDesk desk, int stock) {
        Shops.withFour(desk);
        int job = Shops.plainJob(desk, 'w', 4);
        for (int left = stock; left > 0; left -= 500) {
            desk.print(job, 1, Math.min(left, 500));
        }
    }

    // ---- makeready

    private static void makereadyIsWhatPrintTells() {
        Twins.Beginning nothing = PrintingSentences::sidesInTwoBindings;
        for (int behind = -1; behind < 5; behind++) {
            for (int i = 0; i < 5; i++) {
                int sheet = i;
                BinderyDesk desk = Twins.begun(nothing);
                if (behind >= 0) {
                    printOf(desk, behind);
                }
                int told = sheet < 4 ? desk.makeready(1, sheet) : desk.makeready(0, 0);
                Check.due("print of " + sheet + " behind " + behind, printOf(desk, sheet), told);
            }
        }
        BinderyDesk desk = Twins.begun(nothing);
        dueMakereadies("at first", desk, 55, 55, 55, 55, 55);
        desk.print(0, 0, 1);
        dueMakereadies("behind saddle stitch", desk, 0, 15, 35, 35, 55);
        desk.correct(0);
        dueMakereadies("behind a correction of the front", desk, 20, 35, 55, 35, 55);
        desk.correct(3);
        dueMakereadies("behind a correction of the back", desk, 40, 55, 55, 55, 55);
    }

    /** Sheet 4 is the saddle job's. */
    private static int printOf(BinderyDesk desk, int sheet) {
        return sheet < 4 ? desk.print(1, sheet, 1) : desk.print(0, 0, 1);
    }

    private static void dueMakereadies(String what, BinderyDesk desk, int saddle, int... perfect) {
        Check.due(what + ", makeready(0, 0)", desk.makeready(0, 0), saddle);
        for (int sheet = 0; sheet < 4; sheet++) {
            Check.due(what + ", makeready(1, " + sheet + ")", desk.makeready(1, sheet), perfect[sheet]);
        }
    }

    private static void makereadyOfTheUnprintable() {
        BinderyDesk never = Check.withContents(2);
        int job = Check.job(never, 'p', 0, 1, 0, 1);
        Check.due("makeready, no proof approved", never.makeready(job, 0), 55);
        BinderyDesk full = Twins.begun(desk -> almostFull(desk, 9999));
        Check.due("makeready of a full pile", full.makeready(0, 1), 0);
        full.correct(0);
        Check.due("makeready of a corrected content", full.makeready(0, 1), 40);
    }

    // ---- the least makeready

    private static void leastOfOneSheet(Edges.OfNumber least) {
        for (char binding : Edges.BINDINGS) {
            BinderyDesk desk = new BinderyDesk();
            Shops.withFour(desk);
            int job = Check.job(desk, binding, binding == 'w' ? new int[] {0, 1} : new int[] {0, 1, 2, 3});
            Check.due("of one sheet", least.ask(desk, job), 55);
            desk.print(job, 0, 1);
            Check.due("of the sheet on the press", least.ask(desk, job), 0);
            desk.correct(1);
            Check.due("of a corrected one", least.ask(desk, job), 20);
        }
    }

    /** Each sheet shares a side with the next one of the chain, but they lie in another order. */
    private static void leastOfChain(Edges.OfNumber least, int sheets) {
        int[][] chain = {{0, 0}, {1, 0}, {1, 1}, {2, 1}, {2, 2}, {3, 2}, {3, 3}, {4, 3}};
        int[] order = sheets == 8 ? new int[] {5, 0, 3, 6, 1, 4, 7, 2} : new int[] {3, 0, 5, 2, 4, 1};
        BinderyDesk desk = Check.withContents(5);
        Check.approveAll(desk, 5);
        int job = desk.addJob('w');
        for (int number : order) {
            desk.addPage(job, chain[number][0]);
            desk.addPage(job, chain[number][1]);
        }
        Check.due("of a chain", least.ask(desk, job), 55 + 20 * (sheets - 1));
        for (int first = 0; first < sheets; first++) {
            desk.print(job, first, 1);
            int place = order[first];
            int shorter = Math.min(place, sheets - 1 - place);
            // From the middle, one end is reached by the chain, and the other half begins behind a jump.
            int jump = shorter == 0 ? 0 : 20;
            Check.due("of a chain from sheet " + place, least.ask(desk, job), 20 * (sheets - 1) + jump);
        }
    }

    private static void leastFromThePress(Edges.OfNumber least) {
        BinderyDesk desk = new BinderyDesk();
        Shops.withFour(desk);
        int job = Check.job(desk, 'p', 1, 2, 3, 0, 1, 1, 0, 0);
        int saddle = Check.job(desk, 's', 1, 2, 3, 0);
        int wire = Check.job(desk, 'w', 0, 0);
        Check.due("two sheets with the same front", least.ask(desk, job), 75);
        desk.print(saddle, 0, 1);
        Check.due("the binding is changed once", least.ask(desk, job), 35);
        desk.print(job, 0, 1);
        Check.due("the first is on the press", least.ask(desk, job), 20);
        desk.print(job, 1, 1);
        Check.due("the second is on the press", least.ask(desk, job), 20);
        desk.print(wire, 0, 1);
        Check.due("nothing of it is on the press", least.ask(desk, job), 75);
    }

    private static void leastOfManyJobs(Edges.OfNumber least, int most) {
        Random random = new Random(most);
        for (int run = 0; run < 150; run++) {
            char binding = Edges.BINDINGS[run % 3];
            int sheets = 1 + random.nextInt(Math.min(16 / Edges.places(binding), run % 30 < 28 ? 6 : most));
            int contents = 2 + random.nextInt(3);
            int[] shown = random.ints(sheets * Edges.places(binding), 0, contents).toArray();
            int[] before = random.ints(Edges.places(binding), 0, contents).toArray();
            BinderyDesk desk = Check.withContents(contents);
            Check.approveAll(desk, contents);
            int job = Check.job(desk, binding, shown);
            Check.due("run " + run + ", at first", least.ask(desk, job), 15 + orders(sides(binding, shown), 0, -1, -1));
            int first = Check.job(desk, binding, before);
            desk.print(first, 0, 1);
            int[][] press = sides(binding, before);
            Check.due("run " + run, least.ask(desk, job), orders(sides(binding, shown), 0, press[0][0], press[0][1]));
        }
    }

    /** The front and the back of each sheet, each as a number. */
    private static int[][] sides(char binding, int[] shown) {
        int[][] table = JobsSentences.table(binding, shown.length);
        int[][] sides = new int[table.length][2];
        for (int sheet = 0; sheet < table.length; sheet++) {
            for (int side = 0; side < 2; side++) {
                int[] pages = table[sheet];
                sides[sheet][side] = binding == 'w' ? shown[pages[side] - 1]
                        : 100 * shown[pages[2 * side] - 1] + shown[pages[2 * side + 1] - 1];
            }
        }
        return sides;
    }

    private static int orders(int[][] sides, int used, int front, int back) {
        int least = used == (1 << sides.length) - 1 ? 0 : Integer.MAX_VALUE;
        for (int next = 0; next < sides.length; next++) {
            if ((used & 1 << next) == 0) {
                int minutes = (sides[next][0] == front ? 0 : 20) + (sides[next][1] == back ? 0 : 20);
                least = Math.min(least, minutes + orders(sides, used | 1 << next, sides[next][0], sides[next][1]));
            }
        }
        return least;
    }

    private static void leastOfTheUnprintable(Edges.OfNumber least) {
        BinderyDesk desk = Check.withContents(3);
        int job = Check.job(desk, 'w', 0, 1, 1, 2, 0, 2);
        Check.due("no proof approved", least.ask(desk, job), 95);
        desk.approve(0);
        desk.approve(1);
        desk.print(job, 0, 1);
        Check.due("one of three can be printed", least.ask(desk, job), 40);
        desk.correct(1);
        Check.due("none can be printed", least.ask(desk, job), 60);
        BinderyDesk full = Twins.begun(shop -> almostFull(shop, 9999));
        Check.due("a full pile", least.ask(full, 0), 0);
    }

    private static void tryingSixSheets() {
        for (int pages = 2; pages <= 12; pages += 2) {
            BinderyDesk desk = Check.withContents(1);
            Check.due(pages + " pages", desk.leastByTrying(Shops.plainJob(desk, 'w', pages)), 55);
        }
        for (int count = 14; count <= 16; count += 2) {
            int pages = count;
            Twins.refuse(Edges.REFUSED, pages + " pages", desk -> Shops.withPages(desk, 'w', pages), desk -> desk.leastByTrying(0));
        }
        for (char binding : new char[] {'s', 'p'}) {
            BinderyDesk desk = Check.withContents(1);
            Check.due("four sheets", desk.leastByTrying(Shops.plainJob(desk, binding, 16)), 55);
        }
    }

    // ---- stock

    private static void stockOfEachSheet() {
        BinderyDesk desk = Check.withContents(1);
        desk.approve(0);
        for (int job = 0; job < 4; job++) {
            Shops.plainJob(desk, 'w', 16);
            for (int sheet = 0; sheet < 8; sheet++) {
                desk.print(job, sheet, 10 * job + sheet + 1);
            }
        }
        for (int job = 0; job < 4; job++) {
            for (int sheet = 0; sheet < 8; sheet++) {
                Check.due("stock(" + job + ", " + sheet + ")", desk.stock(job, sheet), 10 * job + sheet + 1);
            }
        }
    }

    private static void stockFromNoneToAll() {
        BinderyDesk desk = Check.withContents(1);
        desk.approve(0);
        int job = Shops.plainJob(desk, 'w', 2);
        Check.due("at first", desk.stock(job, 0), 0);
        for (int i = 1; i <= 19; i++) {
            desk.print(job, 0, 500);
            Check.due("stock", desk.stock(job, 0), 500 * i);
        }
        desk.print(job, 0, 499);
        Check.due("as many as can be", desk.stock(job, 0), 9999);
        for (int i = 1; i <= 19; i++) {
            desk.bind(job, 500);
        }
        Check.due("what is left", desk.stock(job, 0), 499);
        desk.bind(job, 499);
        Check.due("nothing is left", desk.stock(job, 0), 0);
    }

    // ---- plates

    private static void platesThatWereMade() {
        BinderyDesk desk = new BinderyDesk();
        Check.due("at first", desk.plates(), 0);
        Shops.withFour(desk);
        int wire = Check.job(desk, 'w', 0, 1, 0, 0, 1, 0);
        int perfect = Check.job(desk, 'p', 0, 0, 0, 0, 1, 0, 1, 0);
        Check.due("jobs make none", desk.plates(), 0);
        desk.print(wire, 0, 500);
        Check.due("front and back", desk.plates(), 2);
        desk.print(wire, 2, 1);
        desk.print(wire, 1, 1);
        desk.print(wire, 0, 1);
        Check.due("the same ones", desk.plates(), 2);
        desk.print(perfect, 0, 1);
        Check.due("front and back alike", desk.plates(), 3);
        desk.print(perfect, 1, 1);
        Check.due("both other ones alike", desk.plates(), 4);
        desk.bind(wire, 1);
        desk.correct(0);
        Check.due("what is void was made", desk.plates(), 4);
        Check.due("a refused print makes none", Check.answerOf(() -> desk.print(wire, 0, 1)), "throws.UnsupportedOperationException");
        Check.due("a refused print makes none", desk.plates(), 4);
    }

    /** 159 corrections make two new plates each: more than a byte would count, in less than 512 calls. */
    private static void manyPlates() {
        BinderyDesk desk = Check.withContents(2);
        Check.approveAll(desk, 2);
        int job = Check.job(desk, 's', 1, 1, 0, 0);
        for (int i = 0; i < 160; i++) {
            desk.print(job, 0, 1);
            Check.due("plates()", desk.plates(), 2 * (i + 1));
            if (i < 159) {
                int content = i < 99 ? 0 : 1;
                desk.correct(content);
                desk.approve(content);
            }
        }
    }

    private static void neededAsContentsAreNow() {
        BinderyDesk desk = new BinderyDesk();
        Shops.withFour(desk);
        int saddle = Check.job(desk, 's', 1, 2, 3, 0);
        int perfect = Check.job(desk, 'p', 1, 2, 3, 0, 1, 2, 3, 0);
        int wire = Check.job(desk, 'w', 0, 1);
        Check.due("at first", desk.platesNeeded(saddle), 2);
        Check.due("at first", desk.platesNeeded(perfect), 2);
        Check.due("at first", desk.platesNeeded(wire), 2);
        desk.print(saddle, 0, 1);
        Check.due("all were made", desk.platesNeeded(saddle), 0);
        Check.due("all were made for another job", desk.platesNeeded(perfect), 0);
        Check.due("none with one content was made", desk.platesNeeded(wire), 2);
        desk.correct(0);
        Check.due("the front in its new state", desk.platesNeeded(saddle), 1);
        desk.correct(2);
        Check.due("both in their new states", desk.platesNeeded(perfect), 2);
        desk.approve(0);
        desk.approve(2);
        Check.due("approval makes none", desk.platesNeeded(perfect), 2);
        desk.print(perfect, 1, 1);
        Check.due("all were made again", desk.platesNeeded(saddle), 0);
        desk.addPage(wire, 2);
        desk.addPage(wire, 0);
        Check.due("contents 0, 1 and 2", desk.platesNeeded(wire), 3);
    }

    private static void neededOnce() {
        for (char binding : Edges.BINDINGS) {
            BinderyDesk desk = new BinderyDesk();
            Shops.withFour(desk);
            int job = Shops.plainJob(desk, binding, 16);
            Check.due("16 pages of one content", desk.platesNeeded(job), 1);
            desk.print(job, 0, 1);
            Check.due("it was made", desk.platesNeeded(job), 0);
        }
        BinderyDesk desk = new BinderyDesk();
        Shops.withFour(desk);
        int wire = Check.job(desk, 'w', 0, 1, 2, 3, 3, 2, 1, 0, 0, 0, 1, 2, 3, 0, 2, 2);
        Check.due("four contents on 16 sides", desk.platesNeeded(wire), 4);
        desk.print(wire, 4, 1);
        Check.due("three are left", desk.platesNeeded(wire), 3);
    }

    /** Every side of the largest job counts: all are different, and the last one is as the first one or not. */
    private static void neededOfAllSides() {
        BinderyDesk desk = Check.withContents(12);
        int wire = Check.job(desk, 'w', 0, 1, 2, 3, 4, 5, 6, 7, 8, 9, 10, 11);
        Check.due("12 sides", desk.platesNeeded(wire), 12);
        int saddle = Check.job(desk, 's', 0, 1, 2, 3, 4, 5, 6, 7, 8, 9, 10, 11, 10, 9, 8, 7);
        Check.due("eight sides", desk.platesNeeded(saddle), 8);
        int perfect = Check.job(desk, 'p', 0, 1, 2, 3, 4, 5, 6, 7, 8, 9, 10, 11, 0, 1, 2, 3);
        Check.due("the last sheet is as the first one", desk.platesNeeded(perfect), 6);
        desk.approve(0);
        desk.approve(1);
        desk.print(wire, 0, 1);
        Check.due("10 sides are left", desk.platesNeeded(wire), 10);
    }

    /** All sides differ but two, which may be any. */
    private static void neededWithTwoAlike() {
        for (char binding : Edges.BINDINGS) {
            int[][] table = JobsSentences.table(binding, binding == 'w' ? 12 : 16);
            int sides = 2 * table.length;
            for (int one = 0; one < sides; one++) {
                for (int two = one + 1; two < sides; two++) {
                    BinderyDesk desk = Check.withContents(12);
                    int job = Check.job(desk, binding, twoAlike(table, one, two));
                    Check.due(binding + ", sides " + one + " and " + two, desk.platesNeeded(job), sides - 1);
                }
            }
        }
    }

    /** What the pages show if each side shows its own number alone, but the second of the two shows the first one's. */
    private static int[] twoAlike(int[][] table, int one, int two) {
        int places = table[0].length;
        int[] shown = new int[table.length * places];
        for (int sheet = 0; sheet < table.length; sheet++) {
            for (int place = 0; place < places; place++) {
                int side = 2 * sheet + place * 2 / places;
                shown[table[sheet][place] - 1] = side == two ? one : side;
            }
        }
        return shown;
    }

    private static void neededOfManyJobs() {
        Random random = new Random(18);
        for (int run = 0; run < 300; run++) {
            char binding = Edges.BINDINGS[run % 3];
            int contents = 1 + random.nextInt(12);
            int[] shown = random.ints(16, 0, contents).toArray();
            int[] before = random.ints(Edges.places(binding), 0, contents).toArray();
            BinderyDesk desk = Check.withContents(contents);
            Check.approveAll(desk, contents);
            int job = Check.job(desk, binding, shown);
            Set<Integer> needed = new HashSet<>();
            for (int[] sheet : sides(binding, shown)) {
                needed.add(sheet[0]);
                needed.add(sheet[1]);
            }
            Check.due("run " + run + ", at first", desk.platesNeeded(job), needed.size());
            desk.print(Check.job(desk, binding, before), 0, 1);
            needed.remove(sides(binding, before)[0][0]);
            needed.remove(sides(binding, before)[0][1]);
            Check.due("run " + run, desk.platesNeeded(job), needed.size());
        }
    }
}
