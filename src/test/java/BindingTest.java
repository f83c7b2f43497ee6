import java.util.NoSuchElementException;

/** Promises 19 to 28: bind to meanMakeready. */
public final class BindingTest {
    private static final Class<NoSuchElementException> NONE = NoSuchElementException.class;

    public static void main(String[] args) {
        bind();
        bindRefusesInOrder();
        lotLimit();
        lacks();
        lotsAndCopies();
        statesOfLots();
        replayOfManyCorrections();
        outdated();
        waste();
        meanMakeready();
        Check.finish("BindingTest");
    }

    private static void bind() {
        BinderyDesk desk = Check.withContents(2);
        Check.approveAll(desk, 2);
        int job = Check.job(desk, 'w', 0, 1, 1, 0);
        int other = Check.job(desk, 's', 0, 1, 1, 0);
        desk.print(job, 0, 500);
        desk.print(job, 0, 100);
        desk.print(job, 1, 500);
        desk.print(job, 1, 1);
        desk.print(other, 0, 2);
        Check.due("bind 1", desk.bind(job, 1), 0);
        Check.due("bind the other", desk.bind(other, 2), 1);
        Check.due("bind 500, all of sheet 1", desk.bind(job, 500), 2);
        Check.due("stock(job, 0)", desk.stock(job, 0), 99);
        Check.due("stock(job, 1)", desk.stock(job, 1), 0);
        Check.due("what is bound is no waste", desk.waste(), 0L);
        Check.refuses(desk, UnsupportedOperationException.class, "bind, sheet 1 lacks", () -> desk.bind(job, 1));
        Check.refuses(desk, UnsupportedOperationException.class, "bind, the other lacks", () -> desk.bind(other, 1));
        desk.print(job, 1, 200);
        Check.refuses(desk, UnsupportedOperationException.class, "bind, sheet 0 lacks", () -> desk.bind(job, 100));
        Check.due("bind 99", desk.bind(job, 99), 3);
        desk.print(job, 0, 7);
        desk.correct(0);
        Check.refuses(desk, UnsupportedOperationException.class, "bind what is void", () -> desk.bind(job, 1));
    }

    private static void bindRefusesInOrder() {
        BinderyDesk desk = Check.withContents(1);
        int job = Check.job(desk, 'w', 0, 0);
        int empty = desk.addJob('w');
        Check.refuses(desk, IndexOutOfBoundsException.class, "bind: no job first", () -> desk.bind(2, 0));
        Check.refuses(desk, IndexOutOfBoundsException.class, "bind job -1", () -> desk.bind(-1, 1));
        Check.refuses(desk, IllegalArgumentException.class, "bind: range first", () -> desk.bind(empty, 0));
        Check.refuses(desk, IllegalArgumentException.class, "bind 501", () -> desk.bind(job, 501));
        Check.refuses(desk, IllegalArgumentException.class, "bind -1", () -> desk.bind(job, -1));
        Check.refuses(desk, IllegalStateException.class, "bind: not complete first", () -> desk.bind(empty, 1));
        Check.refuses(desk, UnsupportedOperationException.class, "bind: lacks", () -> desk.bind(job, 1));
    }

    private static void lotLimit() {
        BinderyDesk desk = Check.withContents(1);
        desk.approve(0);
        int job = Check.job(desk, 'w', 0, 0);
        desk.print(job, 0, 101);
        for (int i = 0; i < 100; i++) {
            Check.due("bind", desk.bind(job, 1), i);
        }
        Check.refuses(desk, IllegalStateException.class, "bind the 101st lot", () -> desk.bind(job, 1));
        Check.refuses(desk, IllegalStateException.class, "100 lots before a lack", () -> desk.bind(job, 2));
        Check.refuses(desk, IllegalArgumentException.class, "range before 100 lots", () -> desk.bind(job, 0));
        Check.due("lots()", desk.lots(), 100);
        Check.due("copies(99)", desk.copies(99), 1);
        Check.refuses(desk, IndexOutOfBoundsException.class, "copies(100)", () -> desk.copies(100));
        Check.due("lacks for one more", desk.lacks(job, 1), 0);
    }

    private static void lacks() {
        BinderyDesk desk = Check.withContents(2);
        Check.approveAll(desk, 2);
        int job = Check.job(desk, 'w', 0, 1, 1, 0, 1, 1);
        int empty = desk.addJob('w');
        Check.due("lacks of none", desk.lacks(job, 500), 1500);
        desk.print(job, 0, 10);
        desk.print(job, 1, 4);
        Check.due("lacks(job, 1)", desk.lacks(job, 1), 1);
        Check.due("lacks(job, 4)", desk.lacks(job, 4), 4);
        Check.due("lacks(job, 6): what is over does not count", desk.lacks(job, 6), 8);
        desk.print(job, 2, 6);
        Check.due("lacks(job, 6)", desk.lacks(job, 6), 2);
        Check.due("lacks(job, 3)", desk.lacks(job, 3), 0);
        Check.refuses(desk, IndexOutOfBoundsException.class, "lacks: no job first", () -> desk.lacks(2, 0));
        Check.refuses(desk, IndexOutOfBoundsException.class, "lacks job -1", () -> desk.lacks(-1, 1));
        Check.refuses(desk, IllegalArgumentException.class, "lacks: range first", () -> desk.lacks(empty, 0));
        Check.refuses(desk, IllegalArgumentException.class, "lacks 501", () -> desk.lacks(job, 501));
        Check.refuses(desk, IllegalArgumentException.class, "lacks -1", () -> desk.lacks(job, -1));
        Check.refuses(desk, IllegalStateException.class, "lacks, not complete", () -> desk.lacks(empty, 1));
    }

    private static void lotsAndCopies() {
        BinderyDesk desk = Check.withContents(1);
        desk.approve(0);
        int job = Check.job(desk, 'w', 0, 0);
        desk.print(job, 0, 500);
        desk.bind(job, 30);
        Check.due("lots()", desk.lots(), 1);
        desk.bind(job, 200);
        Check.due("lots()", desk.lots(), 2);
        Check.due("copies(0)", desk.copies(0), 30);
        Check.due("copies(1)", desk.copies(1), 200);
        Check.refuses(desk, IndexOutOfBoundsException.class, "copies(2)", () -> desk.copies(2));
        Check.refuses(desk, IndexOutOfBoundsException.class, "copies(-1)", () -> desk.copies(-1));
    }

    private static void statesOfLots() {
        BinderyDesk desk = Check.withContents(3);
        desk.correct(1);
        desk.correct(1);
        Check.approveAll(desk, 3);
        int job = Check.job(desk, 'w', 0, 1);
        desk.print(job, 0, 10);
        desk.bind(job, 1);
        desk.correct(0);
        desk.correct(1);
        Check.approveAll(desk, 3);
        desk.addPage(job, 2);
        desk.addPage(job, 0);
        desk.print(job, 0, 10);
        desk.print(job, 1, 10);
        desk.bind(job, 2);
        desk.correct(2);
        desk.correct(0);
        int[][] due = {{0, 2}, {1, 3, 0, 1}};
        for (int lot = 0; lot < due.length; lot++) {
            int l = lot;
            for (int page = 1; page <= due[lot].length; page++) {
                Check.due("stateIn(" + lot + ", " + page + ")", desk.stateIn(lot, page), due[lot][page - 1]);
                Check.due("stateByReplay(" + lot + ", " + page + ")", desk.stateByReplay(lot, page), due[lot][page - 1]);
            }
            int behind = due[lot].length + 1;
            Check.refuses(desk, NONE, "stateIn, page behind the last", () -> desk.stateIn(l, behind));
            Check.refuses(desk, NONE, "stateByReplay, page behind the last", () -> desk.stateByReplay(l, behind));
            Check.refuses(desk, NONE, "stateIn page 0", () -> desk.stateIn(l, 0));
            Check.refuses(desk, NONE, "stateByReplay page 0", () -> desk.stateByReplay(l, 0));
        }
        Check.refuses(desk, IndexOutOfBoundsException.class, "stateIn(2, 0)", () -> desk.stateIn(2, 0));
        Check.refuses(desk, IndexOutOfBoundsException.class, "stateByReplay(2, 0)", () -> desk.stateByReplay(2, 0));
        Check.refuses(desk, IndexOutOfBoundsException.class, "stateIn(-1, 1)", () -> desk.stateIn(-1, 1));
        Check.refuses(desk, IndexOutOfBoundsException.class, "stateByReplay(-1, 1)", () -> desk.stateByReplay(-1, 1));
    }

    private static void replayOfManyCorrections() {
        BinderyDesk desk = Check.withContents(12);
        int job = Check.job(desk, 'w', 0, 3, 11, 5);
        for (int i = 0; i < 99; i++) {
            desk.correct(0);
            desk.correct(11);
            desk.correct(3);
        }
        Check.approveAll(desk, 12);
        desk.print(job, 0, 2);
        desk.print(job, 1, 2);
        desk.bind(job, 1);
        desk.correct(5);
        int[] due = {99, 99, 99, 0};
        for (int page = 1; page <= 4; page++) {
            Check.due("stateIn(0, " + page + ")", desk.stateIn(0, page), due[page - 1]);
            Check.due("stateByReplay(0, " + page + ")", desk.stateByReplay(0, page), due[page - 1]);
        }
    }

    private static void outdated() {
        BinderyDesk desk = Check.withContents(4);
        Check.approveAll(desk, 4);
        int job = Check.job(desk, 'w', 0, 0, 1, 0);
        int other = Check.job(desk, 'w', 2, 1);
        desk.print(job, 0, 10);
        desk.print(job, 1, 10);
        desk.print(other, 0, 100);
        desk.bind(job, 3);
        desk.bind(job, 5);
        desk.bind(other, 60);
        Check.due("outdated(0) in its present state", desk.outdated(0), 0);
        desk.correct(0);
        Check.due("outdated(0), each copy once", desk.outdated(0), 8);
        desk.correct(1);
        Check.due("outdated(1) in both jobs", desk.outdated(1), 68);
        Check.due("outdated(2)", desk.outdated(2), 0);
        Check.due("outdated(3), never shown", desk.outdated(3), 0);
        Check.approveAll(desk, 4);
        desk.print(other, 0, 7);
        desk.bind(other, 7);
        Check.due("outdated(1): the last lot is not", desk.outdated(1), 68);
        desk.correct(1);
        Check.due("outdated(1): the last lot is, too", desk.outdated(1), 75);
        desk.correct(2);
        Check.due("outdated(2), on the first page alone", desk.outdated(2), 67);
        Check.refuses(desk, IndexOutOfBoundsException.class, "outdated(4)", () -> desk.outdated(4));
        Check.refuses(desk, IndexOutOfBoundsException.class, "outdated(-1)", () -> desk.outdated(-1));
    }

    private static void waste() {
        BinderyDesk desk = Check.withContents(2);
        Check.refuses(desk, ArithmeticException.class, "wasteShare() of nothing", desk::wasteShare);
        Check.approveAll(desk, 2);
        int job = Check.job(desk, 'w', 0, 0, 1, 1);
        desk.print(job, 0, 1);
        Check.due("wasteShare() of one sheet", desk.wasteShare(), 0.0f);
        desk.print(job, 0, 4);
        Check.due("waste()", desk.waste(), 0L);
        Check.due("wasteShare()", desk.wasteShare(), 0.0f);
        desk.print(job, 1, 4);
        desk.bind(job, 2);
        desk.correct(1);
        Check.due("waste() behind correct", desk.waste(), 2L);
        Check.due("wasteShare() behind correct", desk.wasteShare(), 2.0f / 9.0f);
        desk.addPage(job, 0);
        Check.due("waste() behind addPage", desk.waste(), 5L);
        Check.due("wasteShare() behind addPage", desk.wasteShare(), 5.0f / 9.0f);
    }

    private static void meanMakeready() {
        BinderyDesk desk = Check.withContents(3);
        Check.refuses(desk, ArithmeticException.class, "meanMakeready() of nothing", desk::meanMakeready);
        desk.approve(0);
        desk.approve(1);
        int job = Check.job(desk, 'w', 0, 0, 0, 1, 1, 2);
        Check.refuses(desk, UnsupportedOperationException.class, "print that throws", () -> desk.print(job, 2, 1));
        desk.print(job, 0, 500);
        Check.due("meanMakeready() of one", desk.meanMakeready(), 55.0);
        desk.print(job, 1, 1);
        desk.print(job, 1, 1);
        Check.due("meanMakeready() of three", desk.meanMakeready(), 25.0);
        Check.refuses(desk, UnsupportedOperationException.class, "print that throws", () -> desk.print(job, 2, 1));
        desk.print(job, 0, 1);
        desk.print(job, 0, 1);
        desk.print(job, 0, 1);
        desk.print(job, 0, 1);
        Check.due("meanMakeready() of seven", desk.meanMakeready(), 95.0 / 7.0);
    }
}
