/** Shops to begin with, each with something in it that a refused call could spoil. */
final class Shops {
    private Shops() {
    }

    /** As many contents and a wire job; if fresh, without any work done. */
    static void withContents(BinderyDesk desk, int count, boolean fresh) {
        if (fresh) {
            for (int content = 0; content < count; content++) {
                desk.addContent();
            }
            desk.addJob('w');
        } else {
            withContents(desk, count);
        }
    }

    /** As many contents, of which the odd ones are approved, and a wire job with the first and the last one, if any. */
    static void withContents(BinderyDesk desk, int count) {
        for (int content = 0; content < count; content++) {
            desk.addContent();
            if (content % 3 == 1) {
                desk.correct(content);
            }
            if (content % 2 == 1) {
                desk.approve(content);
            }
        }
        int job = desk.addJob('w');
        if (count > 0) {
            desk.addPage(job, 0);
            desk.addPage(job, count - 1);
            desk.approve(0);
            desk.approve(count - 1);
            desk.print(job, 0, 20);
            desk.bind(job, 5);
        }
    }

    /** As many complete jobs, each with 30 of each of its sheets in stock and a lot of 7 copies. */
    static void withJobs(BinderyDesk desk, int count) {
        for (int content = 0; content < 3; content++) {
            desk.addContent();
            desk.approve(content);
        }
        for (int job = 0; job < count; job++) {
            Check.job(desk, "wpsw".charAt(job), 0, 1, job % 3, 2);
            printEach(desk, job, 37);
            desk.bind(job, 7);
        }
    }

    /** Job 0 has as many pages; whenever it was complete, all its sheets were printed. Job 1 has stock, too. */
    static void withPages(BinderyDesk desk, char binding, int pages) {
        for (int content = 0; content < 3; content++) {
            desk.addContent();
            desk.approve(content);
        }
        int job = desk.addJob(binding);
        int other = Check.job(desk, 'w', 2, 1);
        desk.print(other, 0, 12);
        for (int page = 1; page <= pages; page++) {
            desk.addPage(job, page % 3);
            if (page % Edges.places(binding) == 0) {
                printEach(desk, job, 4);
            }
        }
    }

    /** Job 0 has as many pages, all approved, and nothing was printed. */
    static void withPagesAlone(BinderyDesk desk, char binding, int pages) {
        withFour(desk);
        int job = desk.addJob(binding);
        for (int page = 1; page <= pages; page++) {
            desk.addPage(job, page % 4);
        }
    }

    /** As many lots of 1 to 3 copies, and 50 sheets left. */
    static void withLots(BinderyDesk desk, int count) {
        desk.addContent();
        desk.approve(0);
        int job = Check.job(desk, 'w', 0, 0);
        desk.print(job, 0, 350);
        for (int lot = 0; lot < count; lot++) {
            desk.bind(job, 1 + lot % 3);
        }
    }

    /** Lot 0 has as many pages; its job has one more now, if it can, and lot 1 is one of 16 pages. */
    static void withLotAndMorePages(BinderyDesk desk, char binding, int pages) {
        desk.addContent();
        desk.addContent();
        desk.correct(1);
        desk.approve(0);
        desk.approve(1);
        int job = desk.addJob(binding);
        for (int page = 1; page <= pages; page++) {
            desk.addPage(job, page % 2);
        }
        printEach(desk, job, 2);
        desk.bind(job, 2);
        int other = Check.job(desk, 'p', 1, 1, 1, 1, 1, 1, 1, 1, 1, 1, 1, 1, 1, 1, 1, 1);
        printEach(desk, other, 3);
        desk.bind(other, 3);
        if (pages < 16) {
            desk.addPage(job, 1);
        }
    }

    /** Something of all: stock, waste, lots, old and new states, a full job, one with a page too few. */
    static void busy(BinderyDesk desk) {
        for (int content = 0; content < 6; content++) {
            desk.addContent();
            desk.approve(content);
        }
        Check.job(desk, 's', 0, 1, 2, 3, 3, 2, 1, 0);
        Check.job(desk, 'p', 4, 0, 1, 2);
        Check.job(desk, 'w', 0, 1, 2, 3, 4, 5, 0, 1, 2, 3, 4, 0);
        Check.job(desk, 'w', 5, 5, 0);
        printEach(desk, 0, 40);
        printEach(desk, 1, 50);
        printEach(desk, 2, 60);
        desk.bind(2, 11);
        desk.bind(0, 12);
        desk.correct(3);
        desk.approve(3);
        desk.print(2, 1, 25);
        desk.correct(5);
    }

    /** Four contents, all approved. */
    static void withFour(BinderyDesk desk) {
        for (int content = 0; content < 4; content++) {
            desk.addContent();
            desk.approve(content);
        }
    }

    /** The sheets of a complete job, each one printed as many times. */
    static void printEach(BinderyDesk desk, int job, int count) {
        for (int sheet = 0; sheet < desk.sheets(job); sheet++) {
            desk.print(job, sheet, count);
        }
    }

    /** Twelve contents, each in the state of its own number, all approved: a state tells which one it is. */
    static void statesByNumber(BinderyDesk desk) {
        for (int content = 0; content < 12; content++) {
            desk.addContent();
            for (int i = 0; i < content; i++) {
                desk.correct(content);
            }
            desk.approve(content);
        }
    }

    /** A new job with as many pages that show content 0. */
    static int plainJob(BinderyDesk desk, char binding, int pages) {
        return Check.job(desk, binding, new int[pages]);
    }
}
