import java.util.NoSuchElementException;

/** Promises 6 to 11: addJob, addPage, pages, sheets, pageAt, sheetOf. */
public final class JobsTest {
    public static void main(String[] args) {
        addJob();
        addPage();
        addPageVoidsSheets();
        pages();
        sheets();
        layout('s', new int[][] {{16, 1, 2, 15}, {14, 3, 4, 13}, {12, 5, 6, 11}, {10, 7, 8, 9}});
        layout('s', new int[][] {{12, 1, 2, 11}, {10, 3, 4, 9}, {8, 5, 6, 7}});
        layout('s', new int[][] {{4, 1, 2, 3}});
        layout('p', new int[][] {{4, 1, 2, 3}, {8, 5, 6, 7}, {12, 9, 10, 11}, {16, 13, 14, 15}});
        layout('p', new int[][] {{4, 1, 2, 3}, {8, 5, 6, 7}});
        layout('w', new int[][] {{1, 2}, {3, 4}, {5, 6}, {7, 8}, {9, 10}, {11, 12}, {13, 14}, {15, 16}});
        layout('w', new int[][] {{1, 2}, {3, 4}, {5, 6}});
        noLayout();
        Check.finish("JobsTest");
    }

    private static void addJob() {
        BinderyDesk desk = new BinderyDesk();
        Check.refuses(desk, IllegalArgumentException.class, "addJob('x')", () -> desk.addJob('x'));
        Check.refuses(desk, IllegalArgumentException.class, "addJob('S')", () -> desk.addJob('S'));
        Check.refuses(desk, IllegalArgumentException.class, "addJob(0)", () -> desk.addJob((char) 0));
        Check.refuses(desk, IllegalArgumentException.class, "addJob(65535)", () -> desk.addJob((char) 65535));
        Check.due("addJob('s')", desk.addJob('s'), 0);
        Check.due("addJob('p')", desk.addJob('p'), 1);
        Check.due("addJob('w')", desk.addJob('w'), 2);
        Check.due("addJob('s') again", desk.addJob('s'), 3);
        Check.refuses(desk, IllegalStateException.class, "5th addJob('w')", () -> desk.addJob('w'));
        Check.refuses(desk, IllegalArgumentException.class, "5th addJob('x')", () -> desk.addJob('x'));
        Check.due("pages of a new job", desk.pages(3), 0);
    }

    private static void addPage() {
        BinderyDesk desk = Check.withContents(2);
        desk.addJob('w');
        desk.addJob('s');
        Check.refuses(desk, IndexOutOfBoundsException.class, "addPage(2, 0)", () -> desk.addPage(2, 0));
        Check.refuses(desk, IndexOutOfBoundsException.class, "addPage(-1, 0)", () -> desk.addPage(-1, 0));
        Check.refuses(desk, IndexOutOfBoundsException.class, "addPage(0, 2)", () -> desk.addPage(0, 2));
        Check.refuses(desk, IndexOutOfBoundsException.class, "addPage(0, -1)", () -> desk.addPage(0, -1));
        for (int i = 1; i <= 16; i++) {
            Check.due("addPage", desk.addPage(0, i % 2), i);
        }
        Check.refuses(desk, IllegalStateException.class, "17th addPage", () -> desk.addPage(0, 0));
        Check.refuses(desk, IndexOutOfBoundsException.class, "17th addPage, no content", () -> desk.addPage(0, 2));
        Check.due("addPage to the other job", desk.addPage(1, 0), 1);
    }

    private static void addPageVoidsSheets() {
        BinderyDesk desk = Check.withContents(1);
        desk.approve(0);
        int first = Check.job(desk, 'w', 0, 0, 0, 0);
        int other = Check.job(desk, 'w', 0, 0);
        desk.print(first, 0, 3);
        desk.print(first, 1, 4);
        desk.print(other, 0, 100);
        desk.addPage(first, 0);
        Check.due("waste()", desk.waste(), 7L);
        desk.addPage(first, 0);
        Check.due("waste() without stock", desk.waste(), 7L);
        Check.due("stock(first, 0)", desk.stock(first, 0), 0);
        Check.due("stock(first, 1)", desk.stock(first, 1), 0);
        Check.due("stock(other, 0)", desk.stock(other, 0), 100);
        for (int i = 0; i < 10; i++) {
            desk.addPage(first, 0);
        }
        desk.print(first, 7, 5);
        Check.refuses(desk, IllegalStateException.class, "17th addPage with stock", () -> desk.addPage(first, 0));
    }

    private static void pages() {
        BinderyDesk desk = Check.withContents(1);
        Check.job(desk, 's', 0, 0, 0);
        Check.job(desk, 'w', 0);
        Check.due("pages(0)", desk.pages(0), 3);
        Check.due("pages(1)", desk.pages(1), 1);
        Check.refuses(desk, IndexOutOfBoundsException.class, "pages(2)", () -> desk.pages(2));
        Check.refuses(desk, IndexOutOfBoundsException.class, "pages(-1)", () -> desk.pages(-1));
    }

    private static void sheets() {
        for (char binding : new char[] {'s', 'p', 'w'}) {
            BinderyDesk desk = Check.withContents(1);
            int job = desk.addJob(binding);
            int places = binding == 'w' ? 2 : 4;
            for (int pages = 0; pages <= 16; pages++) {
                if (pages > 0 && pages % places == 0) {
                    Check.due("sheets of " + binding, desk.sheets(job), pages / places);
                } else {
                    Check.refuses(desk, IllegalStateException.class, "sheets of " + binding, () -> desk.sheets(job));
                }
                if (pages < 16) {
                    desk.addPage(job, 0);
                }
            }
            Check.refuses(desk, IndexOutOfBoundsException.class, "sheets(1)", () -> desk.sheets(1));
            Check.refuses(desk, IndexOutOfBoundsException.class, "sheets(-1)", () -> desk.sheets(-1));
        }
    }

    /** Every place has the page of the table, and every page is found on its sheet. */
    private static void layout(char binding, int[][] table) {
        int places = table[0].length;
        int pages = table.length * places;
        BinderyDesk desk = Check.withContents(1);
        int job = Check.job(desk, binding, new int[pages]);
        for (int sheet = 0; sheet < table.length; sheet++) {
            for (int place = 0; place < places; place++) {
                String at = binding + " of " + pages + ", sheet " + sheet + ", place " + place;
                Check.due(at, desk.pageAt(job, sheet, place), table[sheet][place]);
                Check.due("sheetOf, " + at, desk.sheetOf(job, table[sheet][place]), sheet);
            }
        }
        Class<NoSuchElementException> none = NoSuchElementException.class;
        int count = table.length;
        Check.refuses(desk, none, "place behind the last", () -> desk.pageAt(job, 0, places));
        Check.refuses(desk, none, "place -1", () -> desk.pageAt(job, 0, -1));
        Check.refuses(desk, none, "sheet behind the last", () -> desk.pageAt(job, count, 0));
        Check.refuses(desk, none, "sheet -1", () -> desk.pageAt(job, -1, 0));
        Check.refuses(desk, none, "page 0", () -> desk.sheetOf(job, 0));
        Check.refuses(desk, none, "page behind the last", () -> desk.sheetOf(job, pages + 1));
    }

    private static void noLayout() {
        BinderyDesk desk = Check.withContents(1);
        int job = Check.job(desk, 's', 0, 0, 0);
        Check.refuses(desk, IndexOutOfBoundsException.class, "pageAt(1, ..)", () -> desk.pageAt(1, 9, 9));
        Check.refuses(desk, IndexOutOfBoundsException.class, "sheetOf(-1, ..)", () -> desk.sheetOf(-1, 99));
        Check.refuses(desk, IllegalStateException.class, "pageAt, not complete", () -> desk.pageAt(job, 9, 9));
        Check.refuses(desk, IllegalStateException.class, "sheetOf, not complete", () -> desk.sheetOf(job, 99));
        Check.refuses(desk, IllegalStateException.class, "pageAt(0, 0, 0), not complete", () -> desk.pageAt(job, 0, 0));
        Check.refuses(desk, IllegalStateException.class, "sheetOf(0, 1), not complete", () -> desk.sheetOf(job, 1));
    }
}
