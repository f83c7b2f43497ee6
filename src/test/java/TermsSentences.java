/** The sentences of "What it is" and of the Terms. */
final class TermsSentences {
    private TermsSentences() {
    }

    static void test(Sentences sentences) {
        sentences.section("What it is");
        sentences.holds("An object is used for at most 512 calls after it has been made; what later calls answer is free.",
                TermsSentences::lastCallOfMany);
        sentences.section("Terms");
        sentences.holds("Its calls are those of a foreman: contents and jobs are written, proofs are approved and corrected, "
                + "sheets are printed and bound, and all other calls look.", TermsSentences::otherCallsLook);
        sentences.holds("No copy has sheets of two states of a content.", TermsSentences::copiesHaveOneState);
        contentsAndJobs(sentences);
        sheets(sentences);
        plates(sentences);
        printing(sentences);
        stockAndBinding(sentences);
        exceptions(sentences);
        ahead(sentences);
    }

    private static void contentsAndJobs(Sentences sentences) {
        sentences.holds("At most 12 contents are numbered from 0.", TermsSentences::twelveContents);
        sentences.holds("A content has a state, initially 0 and at most 99, and its proof is approved or not, initially not.",
                TermsSentences::statesAndProofs);
        sentences.holds("By a correction, the state increases by 1, and the proof is not approved any more.",
                TermsSentences::correctionOfEachContent);
        sentences.holds("At most 4 jobs are numbered from 0.", TermsSentences::fourJobs);
        sentences.holds("A job has a binding, 's' saddle stitch, 'p' perfect, or 'w' wire, and at most 16 pages, numbered "
                + "from 1 in the order in which they were added, each of which shows a content.", TermsSentences::sixteenPages);
        sentences.holds("Jobs can show the same contents, and a job can show one more than once.", TermsSentences::sharedContents);
    }

    private static void sheets(Sentences sentences) {
        sentences.holds("With saddle stitch and perfect binding, a sheet has 4 places: 0 and 1 on its front, 2 and 3 on its back; "
                + "with wire, it has 2: 0 on its front, 1 on its back.", TermsSentences::placesOnFrontAndBack);
        sentences.holds("A job is complete if it has pages, and their number can be divided by that of the places of a sheet; "
                + "it has as many sheets then as the quotient tells, numbered from 0.", TermsSentences::completeByPages);
        sentences.holds("With saddle stitch, the sheet with the number n of a job with p pages has the pages p - 2n, 2n + 1, "
                + "2n + 2 and p - 2n - 1 in its places, in this order; with perfect binding, the pages 4n + 4, 4n + 1, "
                + "4n + 2 and 4n + 3; with wire, the pages 2n + 1 and 2n + 2.", TermsSentences::pagesByFormula);
    }

    private static void plates(Sentences sentences) {
        sentences.holds("A plate shows the contents of one side of a sheet, one or two of them, in the order of their places, "
                + "each one in a state.", TermsSentences::plateByPlacesAndStates);
        String same = "Two sides with the same contents in the same order have the same plate, whatever their jobs, as long as "
                + "the states are the same; a side with one content never has the same plate as one with two.";
        sentences.holds(same, TermsSentences::samePlateOfAllJobs);
        sentences.holds(same, TermsSentences::oneContentOrTwo);
        sentences.holds(same, () -> PlatePairs.dueOfAll(0));
        sentences.holds(same, () -> PlatePairs.dueOfAll(99));
        sentences.holds("A plate is made when a sheet is printed that needs it, and it was not made before.",
                TermsSentences::platesAreMadeByPrints);
    }

    private static void printing(Sentences sentences) {
        sentences.holds("A sheet of a complete job can be printed if the proofs of all its contents are approved.",
                TermsSentences::onlyItsOwnProofs);
        sentences.holds("Its front plate and its back plate are on the press then, in these two places, and the binding is "
                + "that of its job.", TermsSentences::pressBehindAPrint);
        sentences.holds("The makeready of a sheet is the sum of 20 minutes if its front plate is not on the press in the place "
                + "for the front, 20 minutes if its back plate is not in the place for the back, and 15 minutes if the binding "
                + "on the press is another one.", TermsSentences::eachSumOfMinutes);
        sentences.holds("Before the first print, nothing is on the press, so that all three are added.",
                TermsSentences::pressBeforeThePrint);
    }

    private static void stockAndBinding(Sentences sentences) {
        sentences.holds("The sheets of a job that were printed are in stock, counted for each sheet, until they are bound.",
                TermsSentences::stockUntilBound);
        sentences.holds("When a content is corrected, all sheets in stock on which it is shown are void: they are counted as "
                + "waste and not in stock any more.", TermsSentences::correctionVoidsWhatShows);
        sentences.holds("When a page is added to a job, all its sheets in stock are void, too.", TermsSentences::pageVoidsItsJob);
        sentences.holds("When copies of a complete job are bound, each one takes one of each of its sheets.",
                TermsSentences::copyTakesOneOfEach);
        sentences.holds("The copies that are bound at once are a lot; lots are numbered from 0, over all jobs, and at most 100 "
                + "are there.", TermsSentences::hundredLots);
        sentences.holds("A lot has for each page the state of its content that its sheets show.", TermsSentences::lotKeepsStates);
    }

    private static void exceptions(Sentences sentences) {
        sentences.holds("A method that throws an exception changes nothing.", TermsSentences::refusedCallsChangeNothing);
        String first = "If several exceptions apply, the one that is documented first is thrown.";
        sentences.holds(first, TermsSentences::firstOfWriting);
        sentences.holds(first, TermsSentences::firstOfSheets);
        sentences.holds(first, TermsSentences::firstOfPrint);
        sentences.holds(first, TermsSentences::firstOfTrying);
        sentences.holds(first, TermsSentences::firstOfBinding);
        sentences.holds(first, TermsSentences::firstOfLots);
    }

    private static void ahead(Sentences sentences) {
        sentences.holds("Ahead of the calls `addContent`, `approve`, `correct`, `state` the interface says: ---- contents.",
                () -> Source.dueAhead("contents", "addContent", "approve", "correct", "state"));
        sentences.holds("Ahead of the calls `addJob`, `addPage`, `pages`, `sheets`, `pageAt`, `sheetOf` the interface says: "
                + "---- jobs and sheets.",
                () -> Source.dueAhead("jobs and sheets", "addJob", "addPage", "pages", "sheets", "pageAt", "sheetOf"));
        sentences.holds("Ahead of the calls `print`, `makeready`, `leastMakeready`, `leastByTrying`, `stock`, `plates`, "
                + "`platesNeeded` the interface says: ---- printing.",
                () -> Source.dueAhead("printing", "print", "makeready", "leastMakeready", "leastByTrying", "stock", "plates",
                        "platesNeeded"));
        sentences.holds("Ahead of the calls `bind`, `lacks`, `lots`, `copies`, `stateIn`, `stateByReplay`, `outdated`, `waste`, "
                + "`wasteShare`, `meanMakeready` the interface says: ---- binding.",
                () -> Source.dueAhead("binding", "bind", "lacks", "lots", "copies", "stateIn", "stateByReplay", "outdated",
                        "waste", "wasteShare", "meanMakeready"));
    }

    // ---- 512 calls, and calls that look

    /** 493 corrections before the lot, two behind it, and the replay is the 512th call. */
    private static void lastCallOfMany() {
        BinderyDesk desk = Check.withContents(5);
        int job = Check.job(desk, 'w', 1, 4);
        for (int i = 0; i < 492; i++) {
            desk.correct(i % 5);
        }
        desk.correct(4);
        desk.approve(1);
        desk.approve(4);
        desk.print(job, 0, 1);
        desk.bind(job, 1);
        desk.correct(2);
        desk.correct(3);
        // 5 + 3 + 493 + 2 + 2 + 2 calls so far.
        Check.due("call 508", desk.state(3), 99);
        Check.due("call 509", desk.outdated(1), 0);
        Check.due("call 510", desk.stateIn(0, 2), 99);
        Check.due("call 511", desk.stateByReplay(0, 2), 99);
        Check.due("call 512", desk.stateByReplay(0, 1), 99);
    }

    private static void otherCallsLook() {
        Twins.Beginning busy = Shops::busy;
        for (int number = -1; number <= 17; number++) {
            int n = number;
            Twins.onlyLook("state", busy, desk -> desk.state(n));
            Twins.onlyLook("outdated", busy, desk -> desk.outdated(n));
            Twins.onlyLook("copies", busy, desk -> desk.copies(n));
            Twins.onlyLook("stateIn", busy, desk -> desk.stateIn(0, n));
            Twins.onlyLook("stateByReplay", busy, desk -> desk.stateByReplay(0, n));
        }
        for (int number = -1; number <= 4; number++) {
            int job = number;
            Twins.onlyLook("pages", busy, desk -> desk.pages(job));
            Twins.onlyLook("sheets", busy, desk -> desk.sheets(job));
            Twins.onlyLook("leastMakeready", busy, desk -> desk.leastMakeready(job));
            Twins.onlyLook("leastByTrying", busy, desk -> desk.leastByTrying(job));
            Twins.onlyLook("platesNeeded", busy, desk -> desk.platesNeeded(job));
            Twins.onlyLook("lacks", busy, desk -> desk.lacks(job, 500));
            lookAtSheets(busy, job);
        }
        Twins.onlyLook("plates", busy, BinderyDesk::plates);
        Twins.onlyLook("lots", busy, BinderyDesk::lots);
        Twins.onlyLook("waste", busy, BinderyDesk::waste);
        Twins.onlyLook("wasteShare", busy, BinderyDesk::wasteShare);
        Twins.onlyLook("meanMakeready", busy, BinderyDesk::meanMakeready);
    }

    private static void lookAtSheets(Twins.Beginning busy, int job) {
        for (int number = -1; number <= 8; number++) {
            int n = number;
            Twins.onlyLook("pageAt", busy, desk -> desk.pageAt(job, n, 1));
            Twins.onlyLook("sheetOf", busy, desk -> desk.sheetOf(job, n));
            Twins.onlyLook("makeready", busy, desk -> desk.makeready(job, n));
            Twins.onlyLook("stock", busy, desk -> desk.stock(job, n));
        }
    }

    private static void copiesHaveOneState() {
        for (char binding : Edges.BINDINGS) {
            int places = Edges.places(binding);
            BinderyDesk desk = new BinderyDesk();
            Shops.withFour(desk);
            // Content 0 is on both sheets.
            int[] shown = binding == 'w' ? new int[] {0, 1, 2, 0} : binding == 'p' ? new int[] {0, 1, 1, 1, 2, 2, 2, 0}
                    : new int[] {0, 1, 0, 2, 2, 2, 1, 1};
            int job = Check.job(desk, binding, shown);
            desk.print(job, 0, 5);
            desk.correct(0);
            desk.approve(0);
            desk.print(job, 1, 5);
            Check.due("sheets of two states", Check.answerOf(() -> desk.bind(job, 1)), "throws.UnsupportedOperationException");
            desk.print(job, 0, 5);
            Check.due("sheets of one state", desk.bind(job, 5), 0);
            for (int page = 1; page <= 2 * places; page++) {
                Check.due("state of page " + page, desk.stateIn(0, page), shown[page - 1] == 0 ? 1 : 0);
            }
        }
    }

    // ---- contents and jobs

    private static void twelveContents() {
        BinderyDesk desk = new BinderyDesk();
        for (int i = 0; i < 20; i++) {
            String answer = Check.answerOf(desk::addContent);
            Check.due("addContent()", answer, i < 12 ? "" + i : "throws.IllegalStateException");
        }
        Check.due("state(0)", desk.state(0), 0);
        Check.due("state(11)", desk.state(11), 0);
        Check.due("state(12)", Check.answerOf(() -> desk.state(12)), "throws.IndexOutOfBoundsException");
    }

    private static void statesAndProofs() {
        for (int number = 0; number < 12; number++) {
            int content = number;
            BinderyDesk desk = Check.withContents(12);
            Check.due("the initial state", desk.state(content), 0);
            Check.due("the initial proof", desk.approve(content), false);
            Check.due("the proof behind it", desk.approve(content), true);
            for (int i = 0; i < 120; i++) {
                Check.answerOf(() -> desk.correct(content));
            }
            Check.due("the last state", desk.state(content), 99);
        }
    }

    private static void correctionOfEachContent() {
        for (int content = 0; content < 12; content++) {
            BinderyDesk desk = Check.withContents(12);
            for (int state = 1; state <= 99; state++) {
                desk.approve(content);
                desk.correct(content);
                Check.due("state", desk.state(content), state);
                Check.due("approved", desk.approve(content), false);
            }
        }
    }

    private static void fourJobs() {
        BinderyDesk desk = new BinderyDesk();
        for (int i = 0; i < 8; i++) {
            int number = i;
            String answer = Check.answerOf(() -> desk.addJob("spw".charAt(number % 3)));
            Check.due("addJob", answer, i < 4 ? "" + i : "throws.IllegalStateException");
        }
        Check.due("pages(0)", desk.pages(0), 0);
        Check.due("pages(3)", desk.pages(3), 0);
        Check.due("pages(4)", Check.answerOf(() -> desk.pages(4)), "throws.IndexOutOfBoundsException");
    }

    private static void sixteenPages() {
        for (char binding : Edges.BINDINGS) {
            BinderyDesk desk = new BinderyDesk();
            Shops.statesByNumber(desk);
            int job = desk.addJob(binding);
            for (int page = 1; page <= 20; page++) {
                int shown = (page + 6) % 12;
                String answer = Check.answerOf(() -> desk.addPage(job, shown));
                Check.due("addPage", answer, page <= 16 ? "" + page : "throws.IllegalStateException");
            }
            Shops.printEach(desk, job, 1);
            desk.bind(job, 1);
            for (int page = 1; page <= 16; page++) {
                Check.due("what page " + page + " shows", desk.stateIn(0, page), (page + 6) % 12);
            }
        }
    }

    private static void sharedContents() {
        BinderyDesk desk = Check.withContents(2);
        Check.approveAll(desk, 2);
        for (int job = 0; job < 4; job++) {
            Check.job(desk, "spww".charAt(job), 0, 0, 1, 1);
            Shops.printEach(desk, job, 10);
        }
        Check.due("shown by four jobs", desk.correct(0), 40);
        Check.due("shown by four jobs", desk.correct(1), 20);
    }

    // ---- sheets

    /** A correction of what one place shows is a new plate for its own side alone. */
    private static void placesOnFrontAndBack() {
        for (char binding : Edges.BINDINGS) {
            int places = Edges.places(binding);
            for (int place = 0; place < places; place++) {
                BinderyDesk desk = new BinderyDesk();
                Shops.withFour(desk);
                int job = Check.job(desk, binding, binding == 'w' ? new int[] {0, 1} : new int[] {0, 1, 2, 3});
                desk.print(job, 0, 1);
                int content = desk.pageAt(job, 0, place) - 1;
                desk.correct(content);
                Check.due("minutes for one side", desk.makeready(job, 0), 20);
                Check.due("plates for one side", desk.platesNeeded(job), 1);
                int beside = binding == 'w' ? 1 - place : desk.pageAt(job, 0, place ^ 1) - 1;
                desk.correct(beside);
                Check.due("minutes for what is beside it", desk.makeready(job, 0), binding == 'w' ? 40 : 20);
            }
            BinderyDesk desk = Check.withContents(1);
            int job = Shops.plainJob(desk, binding, 16);
            Check.due("the last place", desk.pageAt(job, 0, places - 1) > 0, true);
            Check.due("behind it", Check.answerOf(() -> desk.pageAt(job, 0, places)), "throws.NoSuchElementException");
        }
    }

    private static void completeByPages() {
        for (char binding : Edges.BINDINGS) {
            int places = Edges.places(binding);
            BinderyDesk desk = Check.withContents(1);
            int job = desk.addJob(binding);
            for (int pages = 0; pages <= 16; pages++) {
                boolean complete = pages > 0 && pages % places == 0;
                Check.due(binding + " with " + pages + " pages", Check.answerOf(() -> desk.sheets(job)),
                        complete ? "" + pages / places : "throws.IllegalStateException");
                if (complete) {
                    int last = pages / places - 1;
                    Check.due("first sheet", desk.stock(job, 0), 0);
                    Check.due("last sheet", desk.stock(job, last), 0);
                    Check.due("none behind it", Check.answerOf(() -> desk.stock(job, last + 1)), "throws.NoSuchElementException");
                }
                if (pages < 16) {
                    desk.addPage(job, 0);
                }
            }
        }
    }

    private static void pagesByFormula() {
        for (int p = 4; p <= 16; p += 4) {
            BinderyDesk desk = Check.withContents(1);
            int saddle = Shops.plainJob(desk, 's', p);
            int perfect = Shops.plainJob(desk, 'p', p);
            for (int n = 0; n < p / 4; n++) {
                dueSheet(desk, saddle, n, p - 2 * n, 2 * n + 1, 2 * n + 2, p - 2 * n - 1);
                dueSheet(desk, perfect, n, 4 * n + 4, 4 * n + 1, 4 * n + 2, 4 * n + 3);
            }
        }
        for (int p = 2; p <= 16; p += 2) {
            BinderyDesk desk = Check.withContents(1);
            int wire = Shops.plainJob(desk, 'w', p);
            for (int n = 0; n < p / 2; n++) {
                dueSheet(desk, wire, n, 2 * n + 1, 2 * n + 2);
            }
        }
    }

    private static void dueSheet(BinderyDesk desk, int job, int sheet, int... pages) {
        for (int place = 0; place < pages.length; place++) {
            Check.due("sheet " + sheet + ", place " + place, desk.pageAt(job, sheet, place), pages[place]);
            Check.due("sheetOf page " + pages[place], desk.sheetOf(job, pages[place]), sheet);
        }
    }

    // ---- plates

    private static void plateByPlacesAndStates() {
        for (int place = 0; place < 4; place++) {
            BinderyDesk desk = new BinderyDesk();
            Shops.withFour(desk);
            desk.addContent();
            int[] sides = {0, 1, 2, 3};
            int job = perfectSheet(desk, sides);
            desk.print(job, 0, 1);
            int[] other = sides.clone();
            other[place] = 4;
            int[] turned = sides.clone();
            turned[place] = sides[place ^ 1];
            turned[place ^ 1] = sides[place];
            Check.due("another content in place " + place, desk.platesNeeded(perfectSheet(desk, other)), 1);
            Check.due("the other order in place " + place, desk.platesNeeded(perfectSheet(desk, turned)), 1);
            Check.due("front and back changed", desk.platesNeeded(perfectSheet(desk, 2, 3, 0, 1)), 0);
            desk.correct(place);
            Check.due("another state in place " + place, desk.platesNeeded(job), 1);
            desk.correct(4);
            Check.due("a content that is not on it", desk.platesNeeded(job), 1);
        }
    }

    /** A perfect job with one sheet that has these contents in its places. */
    private static int perfectSheet(BinderyDesk desk, int... places) {
        return Check.job(desk, 'p', places[1], places[2], places[3], places[0]);
    }

    private static void samePlateOfAllJobs() {
        int[] shown = {1, 2, 3, 0};
        for (char first : new char[] {'s', 'p'}) {
            BinderyDesk desk = new BinderyDesk();
            Shops.withFour(desk);
            int job = Check.job(desk, first, shown);
            int same = Check.job(desk, first, shown);
            int other = Check.job(desk, first == 's' ? 'p' : 's', shown);
            desk.print(job, 0, 1);
            Check.due("the same in a job of the same binding", desk.platesNeeded(same), 0);
            Check.due("the same in a job of another binding", desk.platesNeeded(other), 0);
            Check.due("makeready of the same", desk.makeready(same, 0), 0);
            Check.due("makeready of the other", desk.makeready(other, 0), 15);
            desk.correct(2);
            Check.due("in another state", desk.platesNeeded(other), 1);
            Check.due("makeready in another state", desk.makeready(same, 0), 20);
            desk.approve(2);
            desk.print(other, 0, 1);
            Check.due("made again by the other", desk.platesNeeded(job), 0);
            Check.due("plates()", desk.plates(), 3);
        }
    }

    private static void oneContentOrTwo() {
        for (int content = 0; content < 12; content++) {
            for (int state : new int[] {0, 1, 99}) {
                BinderyDesk desk = Check.withContents(12);
                for (int i = 0; i < state; i++) {
                    desk.correct(content);
                }
                Check.approveAll(desk, 12);
                int wire = Check.job(desk, 'w', content, content);
                int perfect = Check.job(desk, 'p', content, content, content, content);
                int turned = perfectSheet(desk, content, 0, 0, content);
                desk.print(wire, 0, 1);
                Check.due("a side with two", desk.platesNeeded(perfect), 1);
                Check.due("sides with content 0 behind and ahead", desk.platesNeeded(turned), content == 0 ? 1 : 2);
                Check.due("makeready of two", desk.makeready(perfect, 0), 55);
                desk.print(perfect, 0, 1);
                Check.due("plates()", desk.plates(), 2);
                Check.due("makeready of one", desk.makeready(wire, 0), 55);
            }
        }
    }

    private static void platesAreMadeByPrints() {
        BinderyDesk desk = new BinderyDesk();
        Shops.withFour(desk);
        int job = Check.job(desk, 'w', 0, 1, 1, 2, 2, 2);
        desk.platesNeeded(job);
        desk.makeready(job, 0);
        desk.leastMakeready(job);
        desk.leastByTrying(job);
        Check.answerOf(() -> desk.print(job, 0, 0));
        Check.due("nothing was printed", desk.plates(), 0);
        desk.print(job, 0, 1);
        Check.due("both sides", desk.plates(), 2);
        desk.print(job, 1, 1);
        Check.due("the back alone", desk.plates(), 3);
        desk.print(job, 2, 1);
        desk.print(job, 0, 1);
        Check.due("none behind that", desk.plates(), 3);
        desk.bind(job, 1);
        desk.correct(1);
        Check.due("a correction makes none", desk.plates(), 3);
        desk.approve(1);
        desk.print(job, 1, 1);
        Check.due("the corrected front", desk.plates(), 4);
        desk.print(job, 0, 1);
        Check.due("the back is the same one", desk.plates(), 4);
    }

    // ---- printing

    private static void onlyItsOwnProofs() {
        for (char binding : Edges.BINDINGS) {
            int places = Edges.places(binding);
            for (int own = 0; own < 3; own++) {
                BinderyDesk desk = Check.withContents(12);
                int job = desk.addJob(binding);
                for (int page = 0; page < 3 * places; page++) {
                    desk.addPage(job, page);
                }
                for (int page : JobsSentences.table(binding, 3 * places)[own]) {
                    desk.approve(page - 1);
                }
                for (int n = 0; n < 3; n++) {
                    int sheet = n;
                    Check.due(binding + ", sheet " + sheet, Check.answerOf(() -> desk.print(job, sheet, 1)),
                            sheet == own ? "55" : "throws.UnsupportedOperationException");
                }
            }
        }
    }

    private static void pressBehindAPrint() {
        BinderyDesk desk = new BinderyDesk();
        Shops.withFour(desk);
        int job = Check.job(desk, 'w', 0, 1, 1, 0, 0, 2, 2, 1, 2, 3, 3, 2, 0, 0, 1, 1);
        int saddle = Check.job(desk, 's', 0, 0, 0, 0);
        int perfect = Check.job(desk, 'p', 0, 0, 0, 0);
        desk.print(job, 0, 1);
        dueMinutes(desk, job, 0, 40, 20, 20, 40, 40, 20, 20);
        desk.print(job, 4, 1);
        dueMinutes(desk, job, 40, 40, 40, 20, 0, 40, 40, 40);
        desk.print(job, 1, 1);
        dueMinutes(desk, job, 40, 0, 40, 40, 40, 40, 20, 20);
        // Nothing but a print changes the press.
        Check.answerOf(() -> desk.print(job, 0, 501));
        desk.addPage(saddle, 3);
        Check.answerOf(() -> desk.print(saddle, 0, 1));
        desk.leastMakeready(job);
        dueMinutes(desk, job, 40, 0, 40, 40, 40, 40, 20, 20);
        Shops.printEach(desk, job, 1);
        desk.bind(job, 1);
        dueMinutes(desk, job, 20, 20, 40, 20, 40, 40, 40, 0);
        desk.print(perfect, 0, 1);
        dueMinutes(desk, job, 55, 55, 55, 55, 55, 55, 55, 55);
    }

    private static void dueMinutes(BinderyDesk desk, int job, int... due) {
        for (int sheet = 0; sheet < due.length; sheet++) {
            Check.due("makeready of sheet " + sheet, desk.makeready(job, sheet), due[sheet]);
        }
    }

    private static void eachSumOfMinutes() {
        // (0, 1) and (2, 3) are on the press in saddle stitch: the same, another back, another front, others, turned.
        int[][] places = {{0, 1, 2, 3}, {0, 1, 1, 1}, {1, 1, 2, 3}, {1, 1, 1, 1}, {2, 3, 0, 1}};
        int[] due = {0, 20, 20, 40, 40};
        for (int i = 0; i < places.length; i++) {
            for (char binding : new char[] {'s', 'p'}) {
                BinderyDesk desk = new BinderyDesk();
                Shops.withFour(desk);
                int first = Check.job(desk, 's', 1, 2, 3, 0);
                int[] p = places[i];
                int job = Check.job(desk, binding, p[1], p[2], p[3], p[0]);
                desk.print(first, 0, 1);
                Check.due(binding + ", case " + i, desk.makeready(job, 0), due[i] + (binding == 's' ? 0 : 15));
            }
        }
    }

    private static void pressBeforeThePrint() {
        for (char binding : Edges.BINDINGS) {
            BinderyDesk desk = new BinderyDesk();
            Shops.withFour(desk);
            int job = Shops.plainJob(desk, binding, 4);
            Check.due("makeready", desk.makeready(job, 0), 55);
            desk.leastMakeready(job);
            desk.correct(0);
            desk.approve(0);
            Check.answerOf(() -> desk.print(job, 0, 0));
            Check.due("makeready, still", desk.makeready(job, 0), 55);
            Check.due("leastMakeready", desk.leastMakeready(job), 55);
            Check.due("leastByTrying", desk.leastByTrying(job), 55);
            Check.due("first print", desk.print(job, 0, 1), 55);
            Check.due("second print", desk.print(job, 0, 1), 0);
        }
    }

    // ---- stock and binding

    private static void stockUntilBound() {
        BinderyDesk desk = new BinderyDesk();
        Shops.withFour(desk);
        int job = Check.job(desk, 'w', 0, 1, 2, 3);
        int other = Check.job(desk, 'w', 0, 1, 2, 3);
        desk.print(job, 0, 5);
        desk.print(job, 1, 7);
        desk.print(other, 1, 9);
        desk.print(job, 0, 1);
        dueStock(desk, 6, 7, 0, 9);
        desk.bind(job, 2);
        dueStock(desk, 4, 5, 0, 9);
        desk.bind(job, 4);
        dueStock(desk, 0, 1, 0, 9);
        Check.answerOf(() -> desk.bind(other, 9));
        dueStock(desk, 0, 1, 0, 9);
    }

    /** The stock of both sheets of jobs 0 and 1. */
    private static void dueStock(BinderyDesk desk, int... due) {
        for (int i = 0; i < 4; i++) {
            Check.due("stock(" + i / 2 + ", " + i % 2 + ")", desk.stock(i / 2, i % 2), due[i]);
        }
    }

    /** Every page has a content of its own; each is corrected in a shop of its own. */
    private static void correctionVoidsWhatShows() {
        for (char binding : Edges.BINDINGS) {
            int places = Edges.places(binding);
            for (int content = 0; content < 3 * places; content++) {
                BinderyDesk desk = Check.withContents(12);
                Check.approveAll(desk, 12);
                for (int job = 0; job < 2; job++) {
                    desk.addJob(binding);
                    for (int page = 0; page < 3 * places; page++) {
                        desk.addPage(job, page);
                    }
                    Shops.printEach(desk, job, 10 + job);
                }
                int shows = desk.sheetOf(0, content + 1);
                Check.due("void", desk.correct(content), 21);
                Check.due("waste()", desk.waste(), 21L);
                for (int sheet = 0; sheet < 3; sheet++) {
                    Check.due("stock of job 0", desk.stock(0, sheet), sheet == shows ? 0 : 10);
                    Check.due("stock of job 1", desk.stock(1, sheet), sheet == shows ? 0 : 11);
                }
            }
        }
    }

    private static void pageVoidsItsJob() {
        for (char binding : Edges.BINDINGS) {
            int places = Edges.places(binding);
            for (int pages = places; pages < 16; pages += places) {
                BinderyDesk desk = Check.withContents(2);
                Check.approveAll(desk, 2);
                int job = Shops.plainJob(desk, binding, pages);
                int other = Shops.plainJob(desk, binding, pages);
                Shops.printEach(desk, job, 5);
                Shops.printEach(desk, other, 6);
                desk.addPage(job, 1);
                Check.due("waste() by a page", desk.waste(), 5L * pages / places);
                for (int page = 1; page < places; page++) {
                    desk.addPage(job, 1);
                }
                Check.due("waste() by more pages", desk.waste(), 5L * pages / places);
                for (int sheet = 0; sheet < pages / places; sheet++) {
                    Check.due("stock", desk.stock(job, sheet), 0);
                    Check.due("stock of the other job", desk.stock(other, sheet), 6);
                }
                Check.due("stock of the new sheet", desk.stock(job, pages / places), 0);
            }
        }
    }

    private static void copyTakesOneOfEach() {
        BinderyDesk desk = new BinderyDesk();
        Shops.withFour(desk);
        int job = Check.job(desk, 'w', 0, 1, 2, 3);
        Check.job(desk, 'w', 0, 1, 2, 3);
        Shops.printEach(desk, 0, 500);
        Shops.printEach(desk, 1, 500);
        int left = 500;
        for (int copies : new int[] {1, 2, 96, 400, 1}) {
            desk.bind(job, copies);
            left -= copies;
            dueStock(desk, left, left, 500, 500);
        }
        Check.due("nothing is left", left, 0);
        Check.due("one more", Check.answerOf(() -> desk.bind(job, 1)), "throws.UnsupportedOperationException");
    }

    private static void hundredLots() {
        BinderyDesk desk = new BinderyDesk();
        Shops.withFour(desk);
        for (int job = 0; job < 3; job++) {
            Check.job(desk, Edges.BINDINGS[job], 0, 1, 2, 3);
            Shops.printEach(desk, job, 400);
        }
        for (int i = 0; i < 103; i++) {
            int job = i % 3;
            String answer = Check.answerOf(() -> desk.bind(job, 1 + job));
            Check.due("bind", answer, i < 100 ? "" + i : "throws.IllegalStateException");
        }
        Check.due("copies(0)", desk.copies(0), 1);
        Check.due("copies(98)", desk.copies(98), 3);
        Check.due("copies(99)", desk.copies(99), 1);
        Check.due("copies(100)", Check.answerOf(() -> desk.copies(100)), "throws.IndexOutOfBoundsException");
    }

    private static void lotKeepsStates() {
        BinderyDesk desk = new BinderyDesk();
        Shops.withFour(desk);
        desk.correct(1);
        desk.approve(1);
        int job = Check.job(desk, 's', 0, 1, 2, 1);
        desk.print(job, 0, 9);
        desk.correct(3);
        desk.bind(job, 2);
        for (int content = 0; content < 4; content++) {
            desk.correct(content);
        }
        int[] due = {0, 1, 0, 1};
        for (int page = 1; page <= 4; page++) {
            Check.due("stateIn(0, " + page + ")", desk.stateIn(0, page), due[page - 1]);
            Check.due("stateByReplay(0, " + page + ")", desk.stateByReplay(0, page), due[page - 1]);
        }
    }

    // ---- exceptions

    /** Each exception of each call that is no look, in a busy shop. */
    private static void refusedCallsChangeNothing() {
        Twins.Beginning busy = Shops::busy;
        Twins.refuse(Edges.INDEX, "approve", busy, desk -> desk.approve(6));
        Twins.refuse(Edges.INDEX, "correct", busy, desk -> desk.correct(6));
        Twins.refuse(Edges.ARGUMENT, "addJob", busy, desk -> desk.addJob('x'));
        Twins.refuse(Edges.STATE, "addJob", busy, desk -> desk.addJob('w'));
        Twins.refuse(Edges.INDEX, "addPage to no job", busy, desk -> desk.addPage(4, 0));
        for (int job = 0; job < 4; job++) {
            int j = job;
            Twins.refuse(Edges.INDEX, "addPage of no content", busy, desk -> desk.addPage(j, 6));
            Twins.refuse(Edges.ARGUMENT, "bind 501", busy, desk -> desk.bind(j, 501));
        }
        Twins.refuse(Edges.INDEX, "print of no job", busy, desk -> desk.print(4, 0, 1));
        Twins.refuse(Edges.STATE, "print of an incomplete job", busy, desk -> desk.print(3, 0, 1));
        Twins.refuse(Edges.NONE, "print of no sheet", busy, desk -> desk.print(0, 2, 1));
        Twins.refuse(Edges.ARGUMENT, "print 501", busy, desk -> desk.print(0, 0, 501));
        Twins.refuse(Edges.REFUSED, "print without a proof", busy, desk -> desk.print(2, 2, 1));
        Twins.refuse(Edges.INDEX, "bind no job", busy, desk -> desk.bind(4, 1));
        Twins.refuse(Edges.STATE, "bind an incomplete job", busy, desk -> desk.bind(3, 1));
        Twins.refuse(Edges.REFUSED, "bind what lacks", busy, desk -> desk.bind(2, 40));
    }

    private static void first(String what, Twins.Asked call, BinderyDesk desk, boolean... applies) {
        String[] names = {"IndexOutOfBounds", "IllegalState", "NoSuchElement", "IllegalArgument", "UnsupportedOperation"};
        for (int i = 0; i < applies.length; i++) {
            if (applies[i]) {
                Check.due(what, Check.answerOf(() -> call.of(desk)), "throws." + names[i] + "Exception");
                return;
            }
        }
        Check.due(what + " throws", Check.answerOf(() -> call.of(desk)).startsWith("throws."), false);
    }

    private static void firstOfWriting() {
        BinderyDesk full = Twins.begun(desk -> Shops.withJobs(desk, 4));
        Check.due("addJob('x') with 4 jobs", Check.answerOf(() -> full.addJob('x')), "throws.IllegalArgumentException");
        for (char binding : Edges.BINDINGS) {
            BinderyDesk desk = Twins.begun(shop -> Shops.withPages(shop, binding, 16));
            for (int content : new int[] {-1, 3, Integer.MAX_VALUE}) {
                Check.due("a 17th page of no content", Check.answerOf(() -> desk.addPage(0, content)),
                        "throws.IndexOutOfBoundsException");
            }
        }
    }

    /** Jobs: 0 complete, 1 without pages, 2 with one too few; sheet 8, place 4 and page 17 are nowhere. */
    private static void sheetsOfAllKinds(BinderyDesk desk) {
        Shops.withFour(desk);
        Check.job(desk, 's', 0, 1, 2, 3);
        Check.job(desk, 'p');
        Check.job(desk, 'w', 0, 1, 2);
    }

    private static void firstOfSheets() {
        BinderyDesk desk = Twins.begun(TermsSentences::sheetsOfAllKinds);
        for (int number = -1; number <= 3; number++) {
            int job = number;
            boolean none = job < 0 || job > 2;
            boolean incomplete = job == 1 || job == 2;
            for (int sheet : new int[] {0, 1, 8, -1}) {
                boolean noSheet = sheet != 0;
                for (int place : new int[] {0, 4, -1}) {
                    first("pageAt", shop -> shop.pageAt(job, sheet, place), desk, none, incomplete, noSheet || place != 0);
                }
                first("makeready", shop -> shop.makeready(job, sheet), desk, none, incomplete, noSheet);
                first("stock", shop -> shop.stock(job, sheet), desk, none, incomplete, noSheet);
            }
            for (int page : new int[] {1, 0, 17, -1}) {
                first("sheetOf", shop -> shop.sheetOf(job, page), desk, none, incomplete, page != 1);
            }
        }
    }

    private static void firstOfPrint() {
        // Jobs: 0 can be printed, 1 is not complete, 2 has a proof that is not approved, 3 has a full pile.
        BinderyDesk desk = Twins.begun(shop -> {
            Shops.withFour(shop);
            shop.addContent();
            Check.job(shop, 'w', 0, 0);
            Check.job(shop, 'p', 4, 4, 4);
            Check.job(shop, 'w', 4, 0);
            Check.job(shop, 'w', 1, 1);
            for (int i = 0; i < 20; i++) {
                shop.print(3, 0, i == 0 ? 499 : 500);
            }
        });
        for (int number : new int[] {0, 1, 2, 3, 4, -1}) {
            int job = number;
            for (int sheet : new int[] {0, 1, -1}) {
                for (int count : new int[] {1, 0, 501}) {
                    first("print(" + job + ", " + sheet + ", " + count + ")", shop -> shop.print(job, sheet, count), desk,
                            job < 0 || job > 3, job == 1, sheet != 0, count != 1, job >= 2);
                }
            }
        }
    }

    private static void firstOfTrying() {
        for (int pages = 0; pages <= 16; pages++) {
            BinderyDesk desk = Check.withContents(1);
            Shops.plainJob(desk, 'w', pages);
            for (int number = -1; number <= 1; number++) {
                int job = number;
                first("leastByTrying", shop -> shop.leastByTrying(job), desk, job != 0, pages == 0 || pages % 2 != 0, false, false,
                        pages > 12);
            }
        }
    }

    /** Of bind and lacks, the range is documented before the state. */
    private static void firstOfBinding() {
        for (int lots : new int[] {99, 100}) {
            for (int number = -1; number <= 3; number++) {
                for (int copies : new int[] {1, 0, 501, 400}) {
                    // Jobs: 0 has sheets, 1 is not complete, 2 has none.
                    BinderyDesk desk = Twins.begun(shop -> Shops.withLots(shop, lots));
                    Check.job(desk, 'w', 0);
                    Check.job(desk, 'w', 0, 0);
                    int job = number;
                    boolean none = job < 0 || job > 2;
                    boolean range = copies == 0 || copies == 501;
                    String due = none ? "throws.IndexOutOfBoundsException" : range ? "throws.IllegalArgumentException"
                            : job == 1 || lots == 100 ? "throws.IllegalStateException"
                            : job == 2 || copies == 400 ? "throws.UnsupportedOperationException" : "99";
                    Check.due("bind(" + job + ", " + copies + ") with " + lots + " lots",
                            Check.answerOf(() -> desk.bind(job, copies)), due);
                    String answer = Check.answerOf(() -> desk.lacks(job, copies));
                    Check.due("lacks(" + job + ", " + copies + ")", answer.startsWith("throws.") ? answer : "",
                            none || range ? due : job == 1 ? "throws.IllegalStateException" : "");
                }
            }
        }
    }

    private static void firstOfLots() {
        BinderyDesk desk = Twins.begun(shop -> Shops.withLots(shop, 2));
        for (int number = -1; number <= 3; number++) {
            int lot = number;
            boolean none = lot < 0 || lot > 1;
            for (int page : new int[] {0, 1, 2, 3, -1, 17}) {
                boolean noPage = page < 1 || page > 2;
                first("stateIn", shop -> shop.stateIn(lot, page), desk, none, false, noPage);
                first("stateByReplay", shop -> shop.stateByReplay(lot, page), desk, none, false, noPage);
            }
        }
    }
}
