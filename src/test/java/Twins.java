/** Two shops with the same beginning, one of which is asked what must change nothing: both go on alike. */
final class Twins {
    interface Beginning {
        void of(BinderyDesk desk);
    }

    interface Asked {
        Object of(BinderyDesk desk);
    }

    private static Beginning remembered = null;
    private static String course = "";

    private Twins() {
    }

    static BinderyDesk begun(Beginning beginning) {
        BinderyDesk desk = new BinderyDesk();
        beginning.of(desk);
        return desk;
    }

    /** The call throws just this, as often as it is made, and changes nothing, seen now or later. */
    static void refuse(Class<? extends RuntimeException> due, String what, Beginning beginning, Asked call) {
        BinderyDesk asked = begun(beginning);
        for (int again = 0; again < 3; again++) {
            Check.due(what, Check.answerOf(() -> call.of(asked)), "throws." + due.getSimpleName());
        }
        goOnAlike(what, asked, beginning);
    }

    /** The call answers the same as often as it is made, and changes nothing, seen now or later. */
    static void onlyLook(String what, Beginning beginning, Asked call) {
        BinderyDesk asked = begun(beginning);
        String first = Check.answerOf(() -> call.of(asked));
        for (int again = 0; again < 3; again++) {
            Check.due(what + " once more", Check.answerOf(() -> call.of(asked)), first);
        }
        goOnAlike(what, asked, beginning);
    }

    private static void goOnAlike(String what, BinderyDesk asked, Beginning beginning) {
        Check.dueText("behind " + what, goOn(asked), courseOf(beginning));
    }

    /** How the twin goes on; it is the same for all that is asked behind one beginning, one after the other. */
    private static String courseOf(Beginning beginning) {
        if (beginning != remembered) {
            remembered = beginning;
            course = goOn(begun(beginning));
        }
        return course;
    }

    /** All that a shop answers now, and while work goes on that shows what no look tells. */
    private static String goOn(BinderyDesk desk) {
        StringBuilder all = new StringBuilder(Check.look(desk));
        printAll(all, desk);
        bindAll(all, desk);
        all.append(Check.look(desk));
        approveAll(all, desk);
        printAll(all, desk);
        correctAll(all, desk);
        approveAll(all, desk);
        all.append(Check.look(desk));
        growAll(all, desk);
        approveAll(all, desk);
        printAll(all, desk);
        all.append(Check.look(desk));
        return all.toString();
    }

    private static int contents(BinderyDesk desk) {
        int count = 0;
        while (count < 12 && isThere(desk, count)) {
            count++;
        }
        return count;
    }

    private static boolean isThere(BinderyDesk desk, int content) {
        return !Check.answerOf(() -> desk.state(content)).startsWith("throws.");
    }

    private static void printAll(StringBuilder all, BinderyDesk desk) {
        for (int job = 0; job < 4; job++) {
            for (int sheet = 0; sheet < 8; sheet++) {
                int j = job;
                int s = sheet;
                add(all, "print " + j + " " + s, () -> desk.print(j, s, 1));
            }
        }
    }

    private static void bindAll(StringBuilder all, BinderyDesk desk) {
        for (int job = 0; job < 4; job++) {
            int j = job;
            add(all, "bind " + j, () -> desk.bind(j, 1));
        }
    }

    private static void approveAll(StringBuilder all, BinderyDesk desk) {
        for (int content = 0; content < contents(desk); content++) {
            int c = content;
            add(all, "approve " + c, () -> desk.approve(c));
        }
    }

    private static void correctAll(StringBuilder all, BinderyDesk desk) {
        for (int content = 0; content < contents(desk); content++) {
            int c = content;
            add(all, "correct " + c, () -> desk.correct(c));
        }
    }

    private static void growAll(StringBuilder all, BinderyDesk desk) {
        add(all, "addContent", desk::addContent);
        add(all, "addJob", () -> desk.addJob('w'));
        all.append(Check.look(desk));
        for (int job = 0; job < 4; job++) {
            int j = job;
            add(all, "addPage " + j, () -> desk.addPage(j, 0));
        }
    }

    private static void add(StringBuilder all, String name, Check.Call call) {
        all.append(name).append(' ').append(Check.answerOf(call)).append('\n');
    }
}
