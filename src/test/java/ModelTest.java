import java.util.Random;

/** Long runs of mixed calls, right and wrong ones, each answered as the plain model answers it. */
public final class ModelTest {
    private static final int RUNS = 400;
    private static final int CALLS = 512;

    private final Random random;
    private final int run;
    private final BinderyDesk desk = new BinderyDesk();
    private final Model model = new Model();
    private int contents;
    private int jobs;

    private ModelTest(int run) {
        this.run = run;
        random = new Random(run);
    }

    public static void main(String[] args) {
        for (int run = 0; run < RUNS; run++) {
            new ModelTest(run).play();
        }
        Check.finish("ModelTest");
    }

    private void play() {
        // Few contents make plates that are shared, many make most sheets differ.
        int wanted = 1 + random.nextInt(13);
        for (int i = 0; i < wanted; i++) {
            addContent();
        }
        int wantedJobs = 1 + random.nextInt(4);
        for (int i = 0; i < wantedJobs; i++) {
            addJob("spw".charAt(random.nextInt(3)));
            int pages = 4 * random.nextInt(5);
            for (int page = 0; page < pages; page++) {
                addPage(i, random.nextInt(Math.max(1, contents)));
            }
        }
        for (int i = 0; i < CALLS - 90; i++) {
            if (random.nextInt(3) == 0) {
                look();
            } else {
                act();
            }
        }
    }

    private void addContent() {
        if (same("addContent()", desk::addContent, model::addContent)) {
            contents++;
        }
    }

    private void addJob(char binding) {
        if (same("addJob(" + binding + ")", () -> desk.addJob(binding), () -> model.addJob(binding))) {
            jobs++;
        }
    }

    private void addPage(int job, int content) {
        same("addPage(" + job + ", " + content + ")", () -> desk.addPage(job, content), () -> model.addPage(job, content));
    }

    private void act() {
        int kind = random.nextInt(100);
        int job = near(jobs);
        int content = near(contents);
        if (kind < 1) {
            addContent();
        } else if (kind < 2) {
            addJob("spwx".charAt(random.nextInt(4)));
        } else if (kind < 5) {
            addPage(job, content);
        } else if (kind < 35) {
            same("approve(" + content + ")", () -> desk.approve(content), () -> model.approve(content));
        } else if (kind < 38) {
            same("correct(" + content + ")", () -> desk.correct(content), () -> model.correct(content));
        } else if (kind < 80) {
            int sheet = near(4);
            int count = random.nextInt(4) == 0 ? random.nextInt(503) - 1 : 500;
            same("print(" + job + ", " + sheet + ", " + count + ")",
                    () -> desk.print(job, sheet, count), () -> model.print(job, sheet, count));
        } else {
            int copies = random.nextInt(3) == 0 ? random.nextInt(503) - 1 : 1 + random.nextInt(30);
            same("bind(" + job + ", " + copies + ")", () -> desk.bind(job, copies), () -> model.bind(job, copies));
        }
    }

    private void look() {
        int job = near(jobs);
        int sheet = near(4);
        int content = near(contents);
        switch (random.nextInt(7)) {
            case 0 -> lookAtLayout(job, sheet, near(random.nextBoolean() ? 4 : 16));
            case 1 -> lookAtPress(job, sheet);
            case 2 -> lookAtLots(near(desk.lots()), near(17));
            case 3 -> lookAtSums();
            case 4 -> same("stock(" + job + ", " + sheet + ")", () -> desk.stock(job, sheet), () -> model.stock(job, sheet));
            case 5 -> {
                same("state(" + content + ")", () -> desk.state(content), () -> model.state(content));
                same("outdated(" + content + ")", () -> desk.outdated(content), () -> model.outdated(content));
            }
            default -> {
                int copies = random.nextInt(503) - 1;
                same("lacks(" + job + ", " + copies + ")", () -> desk.lacks(job, copies), () -> model.lacks(job, copies));
            }
        }
    }

    private void lookAtLayout(int job, int sheet, int place) {
        same("pages(" + job + ")", () -> desk.pages(job), () -> model.pages(job));
        same("sheets(" + job + ")", () -> desk.sheets(job), () -> model.sheets(job));
        same("pageAt(" + job + ", " + sheet + ", " + place + ")",
                () -> desk.pageAt(job, sheet, place), () -> model.pageAt(job, sheet, place));
        same("sheetOf(" + job + ", " + place + ")", () -> desk.sheetOf(job, place), () -> model.sheetOf(job, place));
    }

    private void lookAtPress(int job, int sheet) {
        same("makeready(" + job + ", " + sheet + ")", () -> desk.makeready(job, sheet), () -> model.makeready(job, sheet));
        same("leastByTrying(" + job + ")", () -> desk.leastByTrying(job), () -> model.leastByTrying(job));
        same("plates()", desk::plates, model::plates);
        same("platesNeeded(" + job + ")", () -> desk.platesNeeded(job), () -> model.platesNeeded(job));
        // The model tries all orders here too, which takes long with seven or eight sheets.
        if (!Check.answerOf(() -> desk.leastByTrying(job)).contains("Unsupported") || random.nextInt(40) == 0) {
            same("leastMakeready(" + job + ")", () -> desk.leastMakeready(job), () -> model.leastMakeready(job));
        }
    }

    private void lookAtLots(int lot, int page) {
        same("lots()", desk::lots, model::lots);
        same("copies(" + lot + ")", () -> desk.copies(lot), () -> model.copies(lot));
        same("stateIn(" + lot + ", " + page + ")", () -> desk.stateIn(lot, page), () -> model.stateIn(lot, page));
        same("stateByReplay(" + lot + ", " + page + ")", () -> desk.stateByReplay(lot, page), () -> model.stateIn(lot, page));
    }

    private void lookAtSums() {
        same("waste()", desk::waste, model::waste);
        same("wasteShare()", desk::wasteShare, model::wasteShare);
        same("meanMakeready()", desk::meanMakeready, model::meanMakeready);
    }

    /** Mostly a number below the bound, now and then one just outside. */
    private int near(int bound) {
        int pick = random.nextInt(20);
        return pick == 0 ? -1 : pick == 1 ? bound : random.nextInt(Math.max(1, bound));
    }

    /** Whether both answer the same and nothing is thrown. */
    private boolean same(String call, Check.Call asked, Check.Call due) {
        String want = Check.answerOf(due);
        Check.due("run " + run + ": " + call, Check.answerOf(asked), want);
        return !want.startsWith("throws.");
    }
}
