/** What the tests share: counting wrong answers, and looking at all that a shop answers. */
final class Check {
    interface Call {
        Object answer();
    }

    /** Of one sentence, more wrong answers than these are counted, but not told. */
    private static final int TOLD = 5;

    private static int wrong = 0;
    private static int told = 0;
    private static String sentence = "";

    private Check() {
    }

    /** What is looked at from here on is a test of this sentence. */
    static void under(String name) {
        sentence = name.isEmpty() ? "" : "[" + name + "] ";
        told = 0;
    }

    static void due(String call, Object got, Object want) {
        if (!got.equals(want)) {
            wrong++;
            told++;
            if (!sentence.isEmpty() && told > TOLD) {
                return;
            }
            System.out.println(sentence + call + " answered " + got + ", due is " + want);
        }
    }

    /** Two long texts are the same; if not, their first lines that differ are told. */
    static void dueText(String what, String got, String want) {
        String[] gotLines = got.split("\n");
        String[] wantLines = want.split("\n");
        due("number of lines, " + what, gotLines.length, wantLines.length);
        for (int i = 0; i < gotLines.length && i < wantLines.length; i++) {
            if (!gotLines[i].equals(wantLines[i])) {
                due("line " + i + ", " + what, gotLines[i], wantLines[i]);
                return;
            }
        }
    }

    /** The answer as a text, or the exact class of what was thrown. */
    static String answerOf(Call call) {
        try {
            return String.valueOf(call.answer());
        } catch (RuntimeException e) {
            return "throws." + e.getClass().getSimpleName();
        }
    }

    /** The call throws just this, and nothing that can be seen is another one behind it. */
    static void refuses(BinderyDesk desk, Class<? extends RuntimeException> due, String what, Call call) {
        String before = look(desk);
        due(what, answerOf(call), "throws." + due.getSimpleName());
        dueText("all looks behind " + what, look(desk), before);
    }

    static void finish(String test) {
        System.out.println(test + ": " + (wrong == 0 ? "all answers are as due" : wrong + " answers are not as due"));
        if (wrong != 0) {
            System.exit(1);
        }
    }

    /** All answers of all calls that only look, in one text. */
    static String look(BinderyDesk desk) {
        StringBuilder all = new StringBuilder();
        for (int content = 0; content < 12; content++) {
            int c = content;
            add(all, "state", () -> desk.state(c));
            add(all, "outdated", () -> desk.outdated(c));
        }
        for (int job = 0; job < 4; job++) {
            lookAtJob(all, desk, job);
        }
        for (int lot = 0; lot < desk.lots(); lot++) {
            lookAtLot(all, desk, lot);
        }
        add(all, "lots", desk::lots);
        add(all, "plates", desk::plates);
        add(all, "waste", desk::waste);
        add(all, "wasteShare", desk::wasteShare);
        add(all, "meanMakeready", desk::meanMakeready);
        return all.toString();
    }

    private static void lookAtJob(StringBuilder all, BinderyDesk desk, int job) {
        add(all, "pages", () -> desk.pages(job));
        add(all, "sheets", () -> desk.sheets(job));
        add(all, "least", () -> desk.leastMakeready(job));
        add(all, "trying", () -> desk.leastByTrying(job));
        add(all, "needed", () -> desk.platesNeeded(job));
        add(all, "lacks", () -> desk.lacks(job, 500));
        for (int sheet = 0; sheet < 8; sheet++) {
            int s = sheet;
            add(all, "stock", () -> desk.stock(job, s));
            add(all, "makeready", () -> desk.makeready(job, s));
            add(all, "first", () -> desk.pageAt(job, s, 0));
        }
        for (int page = 1; page <= 16; page++) {
            int p = page;
            add(all, "sheetOf", () -> desk.sheetOf(job, p));
        }
    }

    private static void lookAtLot(StringBuilder all, BinderyDesk desk, int lot) {
        add(all, "copies", () -> desk.copies(lot));
        for (int page = 1; page <= 16; page++) {
            int p = page;
            add(all, "stateIn", () -> desk.stateIn(lot, p));
            add(all, "replay", () -> desk.stateByReplay(lot, p));
        }
    }

    private static void add(StringBuilder all, String name, Call call) {
        all.append(name).append(' ').append(answerOf(call)).append('\n');
    }

    // ---- shops to begin with

    /** A shop with as many contents, none of them approved. */
    static BinderyDesk withContents(int count) {
        BinderyDesk desk = new BinderyDesk();
        for (int i = 0; i < count; i++) {
            desk.addContent();
        }
        return desk;
    }

    static void approveAll(BinderyDesk desk, int count) {
        for (int i = 0; i < count; i++) {
            desk.approve(i);
        }
    }

    /** Adds a job whose pages show these contents. */
    static int job(BinderyDesk desk, char binding, int... contents) {
        int job = desk.addJob(binding);
        for (int content : contents) {
            desk.addPage(job, content);
        }
        return job;
    }
}
