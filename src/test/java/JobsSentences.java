/** The sentences of promises 6 to 11: addJob, addPage, pages, sheets, pageAt, sheetOf. */
final class JobsSentences {
    private static final String NO_JOB = "Throws `IndexOutOfBoundsException` if there is no such job";
    private static final String NOT_COMPLETE = "Throws `IllegalStateException` if the job is not complete";

    private JobsSentences() {
    }

    static void test(Sentences sentences) {
        addJob(sentences);
        addPage(sentences);
        pagesAndSheets(sentences);
        pageAt(sentences);
        sheetOf(sentences);
    }

    private static void addJob(Sentences sentences) {
        sentences.section("Promise 6: addJob");
        sentences.holds("Adds a job without pages.", JobsSentences::newJobIsEmpty);
        sentences.holds("- `binding`: the binding, 's', 'p' or 'w'", JobsSentences::bindingLaysOut);
        sentences.holds("Returns the number of the job.", JobsSentences::addJobTellsNumber);
        sentences.holds("Throws `IllegalArgumentException` if there is no such binding", JobsSentences::noSuchBinding);
        sentences.holds("Throws `IllegalStateException` if there are 4 jobs", JobsSentences::addJobIsFull);
    }

    private static void addPage(Sentences sentences) {
        sentences.section("Promise 7: addPage");
        sentences.holds("Adds a page to the end of a job.", JobsSentences::addPageToTheEnd);
        sentences.holds("Returns the number of the page.", JobsSentences::addPageTellsNumber);
        sentences.holds("Throws `IndexOutOfBoundsException` if there is no such job or no such content",
                () -> Edges.noSuchJob((desk, job) -> desk.addPage(job, 0)));
        sentences.holds("Throws `IndexOutOfBoundsException` if there is no such job or no such content",
                () -> Edges.noSuchContent((desk, content) -> desk.addPage(0, content)));
        sentences.holds("Throws `IllegalStateException` if the job has 16 pages", JobsSentences::addPageIsFull);
    }

    private static void pagesAndSheets(Sentences sentences) {
        sentences.section("Promise 8: pages");
        sentences.holds("Returns the number of pages of a job.", JobsSentences::pagesOfEachJob);
        sentences.holds("Returns the number of pages.", JobsSentences::pagesFromNoneToAll);
        sentences.holds(NO_JOB, () -> Edges.noSuchJob(BinderyDesk::pages));
        sentences.section("Promise 9: sheets");
        sentences.holds("Returns the number of sheets of a job.", JobsSentences::sheetsOfEachJob);
        sentences.holds("Returns the number of sheets.", JobsSentences::sheetsFromOneToAll);
        sentences.holds(NO_JOB, () -> Edges.noSuchJob(BinderyDesk::sheets));
        sentences.holds(NOT_COMPLETE, () -> Edges.notComplete(desk -> desk.sheets(0)));
    }

    private static void pageAt(Sentences sentences) {
        sentences.section("Promise 10: pageAt");
        sentences.holds("Returns the page in a place of a sheet.", JobsSentences::pageInEachPlace);
        sentences.holds("Returns the number of the page.", JobsSentences::eachPageHasOnePlace);
        sentences.holds(NO_JOB, () -> Edges.noSuchJob((desk, job) -> desk.pageAt(job, 0, 0)));
        sentences.holds(NOT_COMPLETE, () -> Edges.notComplete(desk -> desk.pageAt(0, 0, 0)));
        String none = "Throws `NoSuchElementException` if there is no such sheet or no such place";
        sentences.holds(none, () -> Edges.noSuchSheet((desk, sheet) -> desk.pageAt(0, sheet, 0)));
        sentences.holds(none, JobsSentences::noSuchPlace);
    }

    private static void sheetOf(Sentences sentences) {
        sentences.section("Promise 11: sheetOf");
        sentences.holds("Returns the sheet that has a page.", JobsSentences::sheetHasItsPage);
        sentences.holds("Returns the number of the sheet.", JobsSentences::sheetOfTable);
        sentences.holds(NO_JOB, () -> Edges.noSuchJob((desk, job) -> desk.sheetOf(job, 1)));
        sentences.holds(NOT_COMPLETE, () -> Edges.notComplete(desk -> desk.sheetOf(0, 1)));
        sentences.holds("Throws `NoSuchElementException` if there is no such page", JobsSentences::noSuchPage);
    }

    // ---- addJob

    private static void newJobIsEmpty() {
        for (char binding : Edges.BINDINGS) {
            BinderyDesk desk = Check.withContents(1);
            desk.approve(0);
            Check.job(desk, 'w', 0, 0);
            desk.print(0, 0, 3);
            int job = desk.addJob(binding);
            Check.due("pages of a new job", desk.pages(job), 0);
            Check.due("sheets of a new job", Check.answerOf(() -> desk.sheets(job)), "throws.IllegalStateException");
            Check.due("pages of the old job", desk.pages(0), 2);
            Check.due("stock of the old job", desk.stock(0, 0), 3);
            Check.due("waste()", desk.waste(), 0L);
        }
    }

    private static void bindingLaysOut() {
        BinderyDesk desk = Check.withContents(1);
        int saddle = Shops.plainJob(desk, 's', 8);
        int perfect = Shops.plainJob(desk, 'p', 8);
        int wire = Shops.plainJob(desk, 'w', 8);
        Check.due("first page of the first sheet, 's'", desk.pageAt(saddle, 0, 0), 8);
        Check.due("first page of the first sheet, 'p'", desk.pageAt(perfect, 0, 0), 4);
        Check.due("first page of the first sheet, 'w'", desk.pageAt(wire, 0, 0), 1);
    }

    private static void addJobTellsNumber() {
        for (char first : Edges.BINDINGS) {
            BinderyDesk desk = new BinderyDesk();
            Check.due("addJob", desk.addJob(first), 0);
            Check.answerOf(() -> desk.addJob('x'));
            Check.due("addJob behind a refused one", desk.addJob('w'), 1);
            desk.addContent();
            Check.due("addJob", desk.addJob('s'), 2);
            Check.due("addJob", desk.addJob(first), 3);
        }
    }

    private static void noSuchBinding() {
        for (int sign = 0; sign < 65536; sign++) {
            char binding = (char) sign;
            BinderyDesk desk = new BinderyDesk();
            boolean isOne = binding == 's' || binding == 'p' || binding == 'w';
            Check.due("addJob((char) " + sign + ")", Check.answerOf(() -> desk.addJob(binding)),
                    isOne ? "0" : "throws.IllegalArgumentException");
        }
        for (char binding : new char[] {'r', 't', 'o', 'q', 'v', 'x', 'S', 'P', 'W', ' ', 0, 's' + 256, 65535}) {
            for (int there = 0; there <= 3; there++) {
                int jobs = there;
                Twins.refuse(Edges.ARGUMENT, "addJob((char) " + (int) binding + ")",
                        desk -> Shops.withJobs(desk, jobs), desk -> desk.addJob(binding));
            }
        }
    }

    private static void addJobIsFull() {
        for (char binding : Edges.BINDINGS) {
            BinderyDesk three = new BinderyDesk();
            Shops.withJobs(three, 3);
            Check.due("the 4th addJob", three.addJob(binding), 3);
            Twins.refuse(Edges.STATE, "the 5th addJob", desk -> Shops.withJobs(desk, 4), desk -> desk.addJob(binding));
        }
    }

    // ---- addPage

    /** A lot tells which content each page shows: each content has the state of its own number. */
    private static void addPageToTheEnd() {
        for (char binding : Edges.BINDINGS) {
            BinderyDesk desk = new BinderyDesk();
            Shops.statesByNumber(desk);
            int job = desk.addJob(binding);
            int lot = 0;
            for (int page = 1; page <= 16; page++) {
                desk.addPage(job, page * 5 % 12);
                if (page % Edges.places(binding) == 0) {
                    Shops.printEach(desk, job, 1);
                    desk.bind(job, 1);
                    dueShown(desk, lot, page);
                    lot++;
                }
            }
        }
    }

    private static void dueShown(BinderyDesk desk, int lot, int pages) {
        for (int page = 1; page <= pages; page++) {
            Check.due("what page " + page + " of " + pages + " shows", desk.stateIn(lot, page), page * 5 % 12);
        }
    }

    private static void addPageTellsNumber() {
        for (char binding : Edges.BINDINGS) {
            BinderyDesk desk = Check.withContents(2);
            desk.addJob(binding);
            desk.addJob(binding);
            for (int page = 1; page <= 16; page++) {
                Check.due("addPage to job 0", desk.addPage(0, page % 2), page);
                Check.answerOf(() -> desk.addPage(0, 2));
                if (page % 2 == 0) {
                    Check.due("addPage to job 1", desk.addPage(1, 0), page / 2);
                }
            }
        }
    }

    private static void addPageIsFull() {
        for (char binding : Edges.BINDINGS) {
            BinderyDesk fifteen = new BinderyDesk();
            Shops.withPages(fifteen, binding, 15);
            Check.due("the 16th addPage", fifteen.addPage(0, 0), 16);
            Check.due("addPage to the other job", fifteen.addPage(1, 0), 3);
            Twins.refuse(Edges.STATE, "the 17th addPage", desk -> Shops.withPages(desk, binding, 16), desk -> desk.addPage(0, 0));
        }
    }

    // ---- pages and sheets

    private static void pagesOfEachJob() {
        BinderyDesk desk = Check.withContents(1);
        Shops.plainJob(desk, 's', 16);
        Shops.plainJob(desk, 'p', 1);
        Shops.plainJob(desk, 'w', 0);
        Shops.plainJob(desk, 'w', 7);
        Check.due("pages(0)", desk.pages(0), 16);
        Check.due("pages(1)", desk.pages(1), 1);
        Check.due("pages(2)", desk.pages(2), 0);
        Check.due("pages(3)", desk.pages(3), 7);
    }

    private static void pagesFromNoneToAll() {
        for (char binding : Edges.BINDINGS) {
            BinderyDesk desk = Check.withContents(1);
            int job = desk.addJob(binding);
            for (int page = 0; page <= 16; page++) {
                Check.due("pages", desk.pages(job), page);
                if (page < 16) {
                    desk.addPage(job, 0);
                }
            }
            Check.answerOf(() -> desk.addPage(job, 0));
            Check.due("pages behind a refused page", desk.pages(job), 16);
        }
    }

    private static void sheetsOfEachJob() {
        BinderyDesk desk = Check.withContents(1);
        Shops.plainJob(desk, 's', 16);
        Shops.plainJob(desk, 'p', 4);
        Shops.plainJob(desk, 'w', 2);
        Shops.plainJob(desk, 'w', 16);
        Check.due("sheets(0)", desk.sheets(0), 4);
        Check.due("sheets(1)", desk.sheets(1), 1);
        Check.due("sheets(2)", desk.sheets(2), 1);
        Check.due("sheets(3)", desk.sheets(3), 8);
    }

    private static void sheetsFromOneToAll() {
        for (char binding : Edges.BINDINGS) {
            int places = Edges.places(binding);
            for (int sheets = 1; sheets <= 16 / places; sheets++) {
                BinderyDesk desk = Check.withContents(1);
                Check.due("sheets", desk.sheets(Shops.plainJob(desk, binding, sheets * places)), sheets);
            }
        }
    }

    // ---- pageAt and sheetOf

    private static final int[][] SADDLE_16 = {{16, 1, 2, 15}, {14, 3, 4, 13}, {12, 5, 6, 11}, {10, 7, 8, 9}};
    private static final int[][] SADDLE_12 = {{12, 1, 2, 11}, {10, 3, 4, 9}, {8, 5, 6, 7}};
    private static final int[][] SADDLE_8 = {{8, 1, 2, 7}, {6, 3, 4, 5}};
    private static final int[][] SADDLE_4 = {{4, 1, 2, 3}};
    private static final int[][] PERFECT_16 = {{4, 1, 2, 3}, {8, 5, 6, 7}, {12, 9, 10, 11}, {16, 13, 14, 15}};
    private static final int[][] WIRE_16 = {{1, 2}, {3, 4}, {5, 6}, {7, 8}, {9, 10}, {11, 12}, {13, 14}, {15, 16}};

    /** The sheets of a job, as the document lays them out. */
    static int[][] table(char binding, int pages) {
        int[][] all = binding == 'p' ? PERFECT_16 : binding == 'w' ? WIRE_16
                : pages == 16 ? SADDLE_16 : pages == 12 ? SADDLE_12 : pages == 8 ? SADDLE_8 : SADDLE_4;
        return java.util.Arrays.copyOf(all, pages / Edges.places(binding));
    }

    private static void pageInEachPlace() {
        for (char binding : Edges.BINDINGS) {
            for (int pages = Edges.places(binding); pages <= 16; pages += Edges.places(binding)) {
                BinderyDesk desk = Check.withContents(1);
                int job = Shops.plainJob(desk, binding, pages);
                int[][] table = table(binding, pages);
                for (int sheet = 0; sheet < table.length; sheet++) {
                    for (int place = 0; place < table[sheet].length; place++) {
                        Check.due(binding + " of " + pages + ", sheet " + sheet + ", place " + place,
                                desk.pageAt(job, sheet, place), table[sheet][place]);
                    }
                }
            }
        }
    }

    private static void eachPageHasOnePlace() {
        for (char binding : Edges.BINDINGS) {
            for (int pages = Edges.places(binding); pages <= 16; pages += Edges.places(binding)) {
                BinderyDesk desk = Check.withContents(1);
                int job = Shops.plainJob(desk, binding, pages);
                int[] seen = new int[pages + 1];
                for (int sheet = 0; sheet < desk.sheets(job); sheet++) {
                    for (int place = 0; place < Edges.places(binding); place++) {
                        seen[desk.pageAt(job, sheet, place)]++;
                    }
                }
                for (int page = 1; page <= pages; page++) {
                    Check.due("places of page " + page, seen[page], 1);
                }
            }
        }
    }

    private static void noSuchPlace() {
        for (char binding : Edges.BINDINGS) {
            for (int count = Edges.places(binding); count <= 16; count += Edges.places(binding)) {
                int pages = count;
                int last = pages / Edges.places(binding) - 1;
                Twins.Beginning beginning = desk -> Shops.withPages(desk, binding, pages);
                Edges.OfNumber call = (desk, place) -> desk.pageAt(0, last, place);
                Edges.refuseAll(Edges.NONE, binding + ", a place", beginning, call, Edges.outside(Edges.places(binding)));
                Edges.allowAll(Edges.NONE, binding + ", a place", beginning, call, 0, Edges.places(binding) - 1);
            }
        }
    }

    private static void sheetHasItsPage() {
        for (char binding : Edges.BINDINGS) {
            for (int pages = Edges.places(binding); pages <= 16; pages += Edges.places(binding)) {
                BinderyDesk desk = Check.withContents(1);
                int job = Shops.plainJob(desk, binding, pages);
                for (int page = 1; page <= pages; page++) {
                    int sheet = desk.sheetOf(job, page);
                    int found = 0;
                    for (int place = 0; place < Edges.places(binding); place++) {
                        found += desk.pageAt(job, sheet, place) == page ? 1 : 0;
                    }
                    Check.due("places of page " + page + " on its sheet", found, 1);
                }
            }
        }
    }

    private static void sheetOfTable() {
        for (char binding : Edges.BINDINGS) {
            for (int pages = Edges.places(binding); pages <= 16; pages += Edges.places(binding)) {
                BinderyDesk desk = Check.withContents(1);
                int job = Shops.plainJob(desk, binding, pages);
                int[][] table = table(binding, pages);
                for (int sheet = 0; sheet < table.length; sheet++) {
                    for (int page : table[sheet]) {
                        Check.due(binding + " of " + pages + ", page " + page, desk.sheetOf(job, page), sheet);
                    }
                }
            }
        }
    }

    private static void noSuchPage() {
        for (char binding : Edges.BINDINGS) {
            for (int count = Edges.places(binding); count <= 16; count += Edges.places(binding)) {
                int pages = count;
                Twins.Beginning beginning = desk -> Shops.withPages(desk, binding, pages);
                Edges.refuseAll(Edges.NONE, binding + ", a page", beginning,
                        (desk, page) -> desk.sheetOf(0, page), Edges.outsideFromOne(pages));
                Edges.allowAll(Edges.NONE, binding + ", a page", beginning,
                        (desk, page) -> desk.sheetOf(0, page), 1, pages);
            }
        }
    }
}
