/** The sentences of promises 19 to 28: bind to meanMakeready. */
final class BindingSentences {
    private static final String NO_JOB = "Throws `IndexOutOfBoundsException` if there is no such job";
    private static final String NO_LOT = "Throws `IndexOutOfBoundsException` if there is no such lot";
    private static final String NO_PAGE = "Throws `NoSuchElementException` if the lot has no such page";
    private static final String RANGE = "Throws `IllegalArgumentException` if the number is out of range";
    private static final String COPIES = "- `copies`: the number of copies, 1 to 500";
    private static final String NOTHING_PRINTED = "Throws `ArithmeticException` if nothing was printed";

    private BindingSentences() {
    }

    static void test(Sentences sentences) {
        bind(sentences);
        lacks(sentences);
        lotsAndCopies(sentences);
        states(sentences);
        outdated(sentences);
        waste(sentences);
        meanMakeready(sentences);
    }

    private static void bind(Sentences sentences) {
        sentences.section("Promise 19: bind");
        sentences.holds("Binds copies of a job.", BindingSentences::bindTakesSheets);
        sentences.holds(COPIES, BindingSentences::bindFromOneToAll);
        sentences.holds("Returns the number of the lot.", BindingSentences::bindTellsNumber);
        sentences.holds(NO_JOB, () -> Edges.noSuchJob((desk, job) -> desk.bind(job, 1)));
        sentences.holds(RANGE, () -> Edges.outOfRange((desk, copies) -> desk.bind(0, copies)));
        String state = "Throws `IllegalStateException` if the job is not complete, or there are 100 lots";
        sentences.holds(state, () -> Edges.notComplete(desk -> desk.bind(0, 1)));
        sentences.holds(state, BindingSentences::bindIsFull);
        sentences.holds("Throws `UnsupportedOperationException` if a sheet lacks", BindingSentences::bindLacksOne);
    }

    private static void lacks(Sentences sentences) {
        sentences.section("Promise 20: lacks");
        sentences.holds("Returns how many sheets lack to bind copies of a job.", BindingSentences::lacksWhatBindNeeds);
        sentences.holds(COPIES, BindingSentences::lacksFromOneToAll);
        sentences.holds("Returns the sum, over all its sheets, of what is not in stock.", BindingSentences::lacksOfAllSheets);
        sentences.holds(NO_JOB, () -> Edges.noSuchJob((desk, job) -> desk.lacks(job, 1)));
        sentences.holds(RANGE, () -> Edges.outOfRange((desk, copies) -> desk.lacks(0, copies)));
        sentences.holds("Throws `IllegalStateException` if the job is not complete",
                () -> Edges.notComplete(desk -> desk.lacks(0, 1)));
    }

    private static void lotsAndCopies(Sentences sentences) {
        sentences.section("Promise 21: lots");
        sentences.holds("Returns the number of lots.", BindingSentences::lotsFromNoneToAll);
        sentences.section("Promise 22: copies");
        sentences.holds("Returns the number of copies of a lot.", BindingSentences::copiesOfEachLot);
        sentences.holds("Returns the number of copies.", BindingSentences::copiesFromOneToAll);
        sentences.holds(NO_LOT, () -> Edges.noSuchLot(BinderyDesk::copies));
    }

    private static void states(Sentences sentences) {
        sentences.section("Promise 23: stateIn");
        sentences.holds("Returns the state of a page in a lot, as it is kept.", () -> statesStay(BinderyDesk::stateIn));
        sentences.holds("Returns the state of its content.", () -> statesOfEachPage(BinderyDesk::stateIn));
        sentences.holds("Returns the state of its content.", () -> statesFromFirstToLast(BinderyDesk::stateIn));
        sentences.holds(NO_LOT, () -> Edges.noSuchLot((desk, lot) -> desk.stateIn(lot, 1)));
        sentences.holds(NO_PAGE, () -> Edges.noSuchPageInLot((desk, page) -> desk.stateIn(0, page)));
        sentences.section("Promise 24: stateByReplay");
        String replay = "Returns the same state, found by going once more through all corrections up to the lot.";
        sentences.holds(replay, () -> statesStay(BinderyDesk::stateByReplay));
        sentences.holds(replay, () -> statesOfEachPage(BinderyDesk::stateByReplay));
        sentences.holds("Returns the state of its content.", () -> statesFromFirstToLast(BinderyDesk::stateByReplay));
        sentences.holds(NO_LOT, () -> Edges.noSuchLot((desk, lot) -> desk.stateByReplay(lot, 1)));
        sentences.holds(NO_PAGE, () -> Edges.noSuchPageInLot((desk, page) -> desk.stateByReplay(0, page)));
    }

    private static void outdated(Sentences sentences) {
        sentences.section("Promise 25: outdated");
        String other = "Returns how many copies that were bound show a content in another state than the present one.";
        sentences.holds(other, BindingSentences::outdatedByOneCorrection);
        sentences.holds(other, BindingSentences::outdatedCountsEachCopyOnce);
        sentences.holds("Returns the number of copies.", BindingSentences::outdatedInAllLots);
        sentences.holds("Throws `IndexOutOfBoundsException` if there is no such content",
                () -> Edges.noSuchContent(BinderyDesk::outdated));
    }

    private static void waste(Sentences sentences) {
        sentences.section("Promise 26: waste");
        sentences.holds("Returns how many sheets became waste.", BindingSentences::wasteFromBothCauses);
        sentences.holds("Returns the number of sheets.", BindingSentences::wasteInMostCalls);
        sentences.section("Promise 27: wasteShare");
        sentences.holds("Returns the share of all printed sheets that became waste.", BindingSentences::shareFromNoneToAll);
        sentences.holds("Returns their number divided by that of all sheets that were printed, both converted to float.",
                BindingSentences::shareAsFloat);
        sentences.holds(NOTHING_PRINTED, () -> nothingPrinted(BinderyDesk::wasteShare));
    }

    private static void meanMakeready(Sentences sentences) {
        sentences.section("Promise 28: meanMakeready");
        sentences.holds("Returns the mean makeready of all prints.", BindingSentences::meanOfAllPrints);
        sentences.holds("Returns the sum of the makeready in minutes divided by the number of calls of print() "
                + "that did not throw an exception, both converted to double.", BindingSentences::meanAsDouble);
        sentences.holds(NOTHING_PRINTED, () -> nothingPrinted(BinderyDesk::meanMakeready));
    }

    // ---- bind

    private static void bindTakesSheets() {
        for (char binding : Edges.BINDINGS) {
            BinderyDesk desk = Check.withContents(1);
            desk.approve(0);
            int other = Shops.plainJob(desk, binding, 16);
            int job = Shops.plainJob(desk, binding, 16);
            Shops.printEach(desk, other, 9);
            for (int sheet = 0; sheet < desk.sheets(job); sheet++) {
                desk.print(job, sheet, 10 + sheet);
            }
            desk.bind(job, 10);
            for (int sheet = 0; sheet < desk.sheets(job); sheet++) {
                Check.due("stock", desk.stock(job, sheet), sheet);
                Check.due("stock of the other job", desk.stock(other, sheet), 9);
            }
            Check.due("lots()", desk.lots(), 1);
            Check.due("waste()", desk.waste(), 0L);
            Check.due("pages", desk.pages(job), 16);
        }
    }

    private static void bindFromOneToAll() {
        BinderyDesk desk = Check.withContents(1);
        desk.approve(0);
        int job = Shops.plainJob(desk, 'w', 2);
        desk.print(job, 0, 500);
        Check.due("bind 1", desk.bind(job, 1), 0);
        desk.print(job, 0, 1);
        Check.due("bind 500", desk.bind(job, 500), 1);
        Check.due("copies(0)", desk.copies(0), 1);
        Check.due("copies(1)", desk.copies(1), 500);
        Check.due("stock", desk.stock(job, 0), 0);
    }

    private static void bindTellsNumber() {
        BinderyDesk desk = new BinderyDesk();
        Shops.withFour(desk);
        for (int job = 0; job < 4; job++) {
            Check.job(desk, "spwp".charAt(job), 0, 1, 2, 3);
            Shops.printEach(desk, job, 30);
        }
        for (int lot = 0; lot < 100; lot++) {
            Check.due("bind", desk.bind(lot * 3 % 4, 1), lot);
            Check.answerOf(() -> desk.bind(0, 31));
        }
    }

    private static void bindIsFull() {
        BinderyDesk almost = Twins.begun(desk -> Shops.withLots(desk, 99));
        Check.due("the 100th lot", almost.bind(0, 2), 99);
        Twins.Beginning full = desk -> Shops.withLots(desk, 100);
        Twins.refuse(Edges.STATE, "the 101st lot", full, desk -> desk.bind(0, 1));
        Twins.refuse(Edges.STATE, "the 101st lot, which would lack", full, desk -> desk.bind(0, 500));
    }

    private static void bindLacksOne() {
        for (char binding : Edges.BINDINGS) {
            int sheets = 16 / Edges.places(binding);
            for (int lacking = 0; lacking < sheets; lacking++) {
                int short1 = lacking;
                Twins.Beginning beginning = desk -> {
                    desk.addContent();
                    desk.approve(0);
                    Shops.plainJob(desk, binding, 16);
                    for (int sheet = 0; sheet < sheets; sheet++) {
                        desk.print(0, sheet, sheet == short1 ? 6 : 40);
                    }
                };
                Twins.refuse(Edges.REFUSED, "one lacks of sheet " + lacking, beginning, desk -> desk.bind(0, 7));
                Check.due("none lacks", Twins.begun(beginning).bind(0, 6), 0);
            }
            Twins.refuse(Edges.REFUSED, "nothing in stock", desk -> {
                desk.addContent();
                Shops.plainJob(desk, binding, 16);
            }, desk -> desk.bind(0, 1));
        }
    }

    // ---- lacks

    private static void lacksWhatBindNeeds() {
        for (char binding : Edges.BINDINGS) {
            BinderyDesk desk = Check.withContents(1);
            desk.approve(0);
            int job = Shops.plainJob(desk, binding, 16);
            int sheets = desk.sheets(job);
            Check.due("nothing in stock", desk.lacks(job, 5), 5 * sheets);
            for (int sheet = 0; sheet < sheets; sheet++) {
                Check.due("before sheet " + sheet, desk.lacks(job, 5), 5 * (sheets - sheet));
                desk.print(job, sheet, 4);
                Check.due("four of sheet " + sheet, desk.lacks(job, 5), 5 * (sheets - sheet) - 4);
                desk.print(job, sheet, 1);
            }
            Check.due("all in stock", desk.lacks(job, 5), 0);
            Check.due("one of each lacks", desk.lacks(job, 6), sheets);
            desk.bind(job, 5);
            Check.due("all bound", desk.lacks(job, 1), sheets);
        }
    }

    private static void lacksFromOneToAll() {
        BinderyDesk desk = Check.withContents(1);
        desk.approve(0);
        int job = Shops.plainJob(desk, 'w', 16);
        Check.due("1 copy of eight sheets", desk.lacks(job, 1), 8);
        Check.due("500 copies of eight sheets", desk.lacks(job, 500), 4000);
        desk.print(job, 7, 500);
        Check.due("1 copy", desk.lacks(job, 1), 7);
        Check.due("500 copies", desk.lacks(job, 500), 3500);
        desk.print(job, 7, 500);
        Check.due("500 copies, more than enough of one", desk.lacks(job, 500), 3500);
    }

    private static void lacksOfAllSheets() {
        BinderyDesk desk = new BinderyDesk();
        Shops.withFour(desk);
        int job = Check.job(desk, 'p', 0, 0, 0, 0, 1, 1, 1, 1, 2, 2, 2, 2);
        int other = Check.job(desk, 'p', 0, 0, 0, 0);
        desk.print(job, 0, 500);
        desk.print(job, 1, 30);
        desk.print(other, 0, 500);
        Check.due("20 and 50 lack, 450 are over", desk.lacks(job, 50), 70);
        Check.due("none of the other", desk.lacks(other, 500), 0);
        desk.correct(1);
        Check.due("what is void lacks", desk.lacks(job, 50), 100);
        desk.addPage(other, 0);
        for (int page = 6; page <= 8; page++) {
            desk.addPage(other, 0);
        }
        Check.due("all is void", desk.lacks(other, 50), 100);
    }

    // ---- lots and copies

    private static void lotsFromNoneToAll() {
        BinderyDesk desk = new BinderyDesk();
        Check.due("lots() at first", desk.lots(), 0);
        Shops.withLots(desk, 0);
        for (int lot = 0; lot < 100; lot++) {
            Check.due("lots()", desk.lots(), lot);
            Check.answerOf(() -> desk.bind(0, 500));
            desk.bind(0, 1);
        }
        Check.due("lots()", desk.lots(), 100);
        Check.answerOf(() -> desk.bind(0, 1));
        Check.due("lots() behind a refused one", desk.lots(), 100);
    }

    private static void copiesOfEachLot() {
        BinderyDesk desk = Twins.begun(shop -> Shops.withLots(shop, 100));
        for (int lot = 0; lot < 100; lot++) {
            Check.due("copies(" + lot + ")", desk.copies(lot), 1 + lot % 3);
        }
        desk.correct(0);
        desk.addPage(0, 0);
        Check.due("copies(99) stay", desk.copies(99), 1);
    }

    private static void copiesFromOneToAll() {
        BinderyDesk desk = Check.withContents(1);
        desk.approve(0);
        int job = Shops.plainJob(desk, 'w', 2);
        int[] counts = {1, 500, 2, 499, 255, 256, 127, 128};
        for (int lot = 0; lot < counts.length; lot++) {
            desk.print(job, 0, counts[lot]);
            desk.bind(job, counts[lot]);
            Check.due("copies(" + lot + ")", desk.copies(lot), counts[lot]);
        }
    }

    // ---- the states of a lot

    interface OfPage {
        int ask(BinderyDesk desk, int lot, int page);
    }

    private static void statesStay(OfPage state) {
        BinderyDesk desk = new BinderyDesk();
        Shops.withFour(desk);
        int job = Check.job(desk, 'w', 0, 1);
        int[][] due = new int[6][];
        for (int lot = 0; lot < 6; lot++) {
            desk.print(job, 0, 5);
            desk.bind(job, 1);
            due[lot] = new int[] {desk.state(0), desk.state(1)};
            desk.correct(lot % 3);
            desk.correct(0);
            Check.approveAll(desk, 3);
        }
        desk.addPage(job, 3);
        desk.addPage(job, 0);
        for (int lot = 0; lot < 6; lot++) {
            Check.due("state of content 0", state.ask(desk, lot, 1), due[lot][0]);
            Check.due("state of content 1", state.ask(desk, lot, 2), due[lot][1]);
        }
        Check.due("first lot", due[0][0] + due[0][1], 0);
        Check.due("last lot, content 0", due[5][0], 7);
        Check.due("last lot, content 1", due[5][1], 2);
    }

    /** Each content has the state of its own number. */
    private static void statesOfEachPage(OfPage state) {
        int[] shown = {11, 3, 7, 7, 0, 10, 1, 9, 2, 8, 4, 6, 5, 0, 11, 3};
        for (char binding : Edges.BINDINGS) {
            for (int pages = Edges.places(binding); pages <= 16; pages += Edges.places(binding)) {
                BinderyDesk desk = new BinderyDesk();
                Shops.statesByNumber(desk);
                int first = Check.job(desk, 'w', 1, 2);
                Shops.printEach(desk, first, 1);
                desk.bind(first, 1);
                int job = Check.job(desk, binding, java.util.Arrays.copyOf(shown, pages));
                Shops.printEach(desk, job, 1);
                int lot = desk.bind(job, 1);
                for (int page = 1; page <= pages; page++) {
                    Check.due("page " + page + " of " + pages, state.ask(desk, lot, page), shown[page - 1]);
                }
                Check.due("page 2 of the first lot", state.ask(desk, 0, 2), 2);
            }
        }
    }

    private static void statesFromFirstToLast(OfPage state) {
        BinderyDesk desk = Check.withContents(2);
        desk.approve(1);
        int job = Check.job(desk, 'w', 1, 0);
        for (int lot = 0; lot < 100; lot++) {
            desk.approve(0);
            desk.print(job, 0, 1);
            desk.bind(job, 1);
            if (lot < 99) {
                desk.correct(0);
            }
        }
        for (int lot = 0; lot < 100; lot++) {
            Check.due("the corrected page in lot " + lot, state.ask(desk, lot, 2), lot);
            Check.due("the other page in lot " + lot, state.ask(desk, lot, 1), 0);
        }
    }

    // ---- outdated

    private static void outdatedByOneCorrection() {
        BinderyDesk desk = new BinderyDesk();
        Shops.withFour(desk);
        int job = Check.job(desk, 'w', 0, 1);
        Check.due("nothing bound", desk.outdated(0), 0);
        desk.print(job, 0, 50);
        desk.correct(0);
        desk.approve(0);
        desk.print(job, 0, 50);
        Check.due("printed only", desk.outdated(0), 0);
        desk.bind(job, 4);
        Check.due("in the present state", desk.outdated(0), 0);
        desk.correct(0);
        Check.due("one state before", desk.outdated(0), 4);
        Check.due("the other content", desk.outdated(1), 0);
        Check.due("a content that is not shown", desk.outdated(2), 0);
        desk.correct(2);
        Check.due("a corrected one that is not shown", desk.outdated(2), 0);
        desk.approve(0);
        Check.due("approved", desk.outdated(0), 4);
        desk.print(job, 0, 50);
        desk.bind(job, 30);
        Check.due("the second lot is not", desk.outdated(0), 4);
        desk.correct(0);
        Check.due("both are", desk.outdated(0), 34);
        desk.correct(1);
        Check.due("both are by the other content", desk.outdated(1), 34);
    }

    private static void outdatedCountsEachCopyOnce() {
        for (char binding : Edges.BINDINGS) {
            for (int page = 1; page <= 16; page++) {
                BinderyDesk desk = Check.withContents(2);
                Check.approveAll(desk, 2);
                int[] shown = new int[16];
                shown[page - 1] = 1;
                int job = Check.job(desk, binding, shown);
                Shops.printEach(desk, job, 3);
                desk.bind(job, 3);
                desk.correct(0);
                desk.correct(1);
                Check.due("shown on 15 pages", desk.outdated(0), 3);
                Check.due("shown on page " + page, desk.outdated(1), 3);
            }
        }
    }

    private static void outdatedInAllLots() {
        BinderyDesk desk = Check.withContents(1);
        desk.approve(0);
        int job = Shops.plainJob(desk, 'w', 2);
        for (int lot = 0; lot < 100; lot++) {
            desk.print(job, 0, 500);
            desk.bind(job, 500);
        }
        Check.due("outdated(0)", desk.outdated(0), 0);
        desk.correct(0);
        Check.due("outdated(0) in 100 lots of 500", desk.outdated(0), 50000);
    }

    // ---- waste

    private static void wasteFromBothCauses() {
        BinderyDesk desk = new BinderyDesk();
        Check.due("at first", desk.waste(), 0L);
        Shops.withFour(desk);
        int job = Check.job(desk, 'w', 0, 1, 2, 3);
        desk.print(job, 0, 100);
        desk.print(job, 1, 90);
        desk.bind(job, 20);
        Check.due("printed and bound", desk.waste(), 0L);
        desk.correct(0);
        Check.due("by a correction", desk.waste(), 80L);
        desk.correct(1);
        Check.due("nothing is left of it", desk.waste(), 80L);
        desk.addPage(job, 0);
        Check.due("by a page", desk.waste(), 150L);
        Check.answerOf(() -> desk.addPage(job, 4));
        desk.addPage(job, 0);
        Check.due("nothing is left at all", desk.waste(), 150L);
    }

    /** As many sheets as 512 calls can make waste: all but six calls print 500. */
    private static void wasteInMostCalls() {
        BinderyDesk desk = Check.withContents(1);
        desk.approve(0);
        int job = Shops.plainJob(desk, 'w', 4);
        int voids = 0;
        for (int i = 0; i < 460; i++) {
            desk.print(job, i % 2, 500);
            if (i % 38 == 37) {
                Check.due("correct", desk.correct(0), 19000);
                desk.approve(0);
                voids++;
            }
        }
        Check.due("waste()", desk.waste(), 19000L * voids);
        Check.due("the rest", desk.correct(0), 230000 - 19000 * voids);
        Check.due("waste() of all", desk.waste(), 230000L);
        Check.due("share of all", desk.wasteShare(), 1.0f);
    }

    private static void shareFromNoneToAll() {
        BinderyDesk desk = Check.withContents(2);
        Check.approveAll(desk, 2);
        int job = Check.job(desk, 'w', 0, 0, 1, 1);
        desk.print(job, 0, 1);
        Check.due("nothing is waste", desk.wasteShare(), 0.0f);
        desk.print(job, 1, 3);
        desk.correct(0);
        Check.due("one of four", desk.wasteShare(), 0.25f);
        desk.correct(1);
        Check.due("all", desk.wasteShare(), 1.0f);
        desk.approve(0);
        desk.print(job, 0, 4);
        Check.due("half of them", desk.wasteShare(), 0.5f);
        desk.addPage(job, 0);
        Check.due("all", desk.wasteShare(), 1.0f);
    }

    private static void shareAsFloat() {
        for (int printed = 1; printed <= 500; printed += 7) {
            for (int bound = 0; bound <= printed; bound += 11) {
                BinderyDesk desk = Check.withContents(1);
                desk.approve(0);
                int job = Shops.plainJob(desk, 'w', 2);
                desk.print(job, 0, printed);
                if (bound > 0) {
                    desk.bind(job, bound);
                }
                desk.correct(0);
                Check.due((printed - bound) + " of " + printed, desk.wasteShare(), (float) (printed - bound) / (float) printed);
            }
        }
    }

    /** Nothing was printed, though much was tried. */
    private static void nothingPrinted(Twins.Asked share) {
        Twins.refuse(Edges.ARITHMETIC, "a new shop", desk -> { }, share);
        Twins.refuse(Edges.ARITHMETIC, "refused prints", desk -> {
            desk.addContent();
            int job = Shops.plainJob(desk, 'w', 2);
            Check.answerOf(() -> desk.print(job, 0, 1));
            desk.approve(0);
            Check.answerOf(() -> desk.print(job, 0, 501));
            Check.answerOf(() -> desk.print(job, 1, 1));
            Check.answerOf(() -> desk.bind(job, 1));
            desk.correct(0);
            desk.addPage(job, 0);
        }, share);
        BinderyDesk desk = Check.withContents(1);
        desk.approve(0);
        desk.print(Shops.plainJob(desk, 'w', 2), 0, 1);
        Edges.allow(Edges.ARITHMETIC, "one sheet was printed", desk, share);
    }

    // ---- meanMakeready

    private static void meanOfAllPrints() {
        BinderyDesk desk = new BinderyDesk();
        Shops.withFour(desk);
        int job = Check.job(desk, 'w', 0, 1, 0, 2, 3, 2);
        int saddle = Check.job(desk, 's', 0, 0, 0, 0);
        int[] due = {55, 75, 95, 95, 150, 205};
        desk.print(job, 0, 500);
        Check.due("one print", desk.meanMakeready(), 55.0);
        desk.print(job, 1, 1);
        Check.due("two prints", desk.meanMakeready(), due[1] / 2.0);
        desk.print(job, 2, 1);
        Check.due("three prints", desk.meanMakeready(), due[2] / 3.0);
        desk.print(job, 2, 1);
        Check.due("a print without makeready", desk.meanMakeready(), due[3] / 4.0);
        desk.print(saddle, 0, 1);
        Check.due("five prints", desk.meanMakeready(), due[4] / 5.0);
        desk.correct(2);
        desk.approve(2);
        desk.print(job, 2, 1);
        Check.due("six prints of two jobs", desk.meanMakeready(), due[5] / 6.0);
    }

    private static void meanAsDouble() {
        BinderyDesk desk = Check.withContents(2);
        desk.approve(0);
        int job = Check.job(desk, 'w', 0, 0, 1, 1);
        for (int prints = 1; prints <= 100; prints++) {
            desk.print(job, 0, 1);
            Check.answerOf(() -> desk.print(job, 1, 1));
            Check.answerOf(() -> desk.print(job, 0, 0));
            Check.answerOf(() -> desk.print(job, 2, 1));
            Check.due(prints + " prints", desk.meanMakeready(), 55.0 / prints);
        }
    }
}
