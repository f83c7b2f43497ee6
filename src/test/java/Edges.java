import java.util.NoSuchElementException;

/** The edges that many calls share: the last number that is there, and the first one that is not. */
final class Edges {
    static final Class<IndexOutOfBoundsException> INDEX = IndexOutOfBoundsException.class;
    static final Class<IllegalStateException> STATE = IllegalStateException.class;
    static final Class<IllegalArgumentException> ARGUMENT = IllegalArgumentException.class;
    static final Class<NoSuchElementException> NONE = NoSuchElementException.class;
    static final Class<UnsupportedOperationException> REFUSED = UnsupportedOperationException.class;
    static final Class<ArithmeticException> ARITHMETIC = ArithmeticException.class;

    static final char[] BINDINGS = {'s', 'p', 'w'};

    interface OfNumber {
        Object ask(BinderyDesk desk, int number);
    }

    private Edges() {
    }

    static int places(char binding) {
        return binding == 'w' ? 2 : 4;
    }

    /** Numbers that are not there if the first is 0; some of them would be after a narrowing. */
    static int[] outside(int count) {
        return new int[] {
            count, -1, count + 1, -count - 1, count + 255, 256, 65536, -65536,
            Integer.MAX_VALUE, Integer.MIN_VALUE, 536870912, 1073741824
        };
    }

    /** The same if the first is 1. */
    static int[] outsideFromOne(int count) {
        return new int[] {
            count + 1, 0, -1, count + 2, -count, 257, 65537, -65535,
            Integer.MAX_VALUE, Integer.MIN_VALUE, 536870913, 1073741825
        };
    }

    static void noSuchContent(OfNumber call) {
        for (int there : new int[] {0, 1, 2, 11, 12}) {
            for (boolean fresh : new boolean[] {false, true}) {
                Twins.Beginning beginning = desk -> Shops.withContents(desk, there, fresh);
                refuseAll(INDEX, there + " contents", beginning, call, outside(there));
                allowAll(INDEX, there + " contents", beginning, call, 0, there - 1);
            }
        }
    }

    static void noSuchJob(OfNumber call) {
        for (int there = 0; there <= 4; there++) {
            int jobs = there;
            Twins.Beginning beginning = desk -> Shops.withJobs(desk, jobs);
            refuseAll(INDEX, there + " jobs", beginning, call, outside(there));
            allowAll(INDEX, there + " jobs", beginning, call, 0, there - 1);
        }
    }

    /** The call asks for job 0. */
    static void notComplete(Twins.Asked call) {
        for (char binding : BINDINGS) {
            for (int count = 0; count <= 16; count++) {
                int pages = count;
                String what = binding + " with " + pages + " pages";
                Twins.Beginning beginning = desk -> Shops.withPages(desk, binding, pages);
                if (pages == 0 || pages % places(binding) != 0) {
                    Twins.refuse(STATE, what, beginning, call);
                } else {
                    allow(STATE, what, Twins.begun(beginning), call);
                }
            }
        }
    }

    /** The call asks job 0 for a sheet. */
    static void noSuchSheet(OfNumber call) {
        for (char binding : BINDINGS) {
            for (int count = places(binding); count <= 16; count += places(binding)) {
                int pages = count;
                int sheets = pages / places(binding);
                Twins.Beginning printed = desk -> Shops.withPages(desk, binding, pages);
                Twins.Beginning fresh = desk -> Shops.withPagesAlone(desk, binding, pages);
                refuseAll(NONE, binding + " with " + sheets + " sheets", printed, call, outside(sheets));
                refuseAll(NONE, binding + " with " + sheets + " sheets, not printed", fresh, call, outside(sheets));
                allowAll(NONE, binding + " with " + sheets + " sheets", printed, call, 0, sheets - 1);
            }
        }
    }

    /** The call asks job 0 for a number of sheets or copies. */
    static void outOfRange(OfNumber call) {
        Twins.Beginning beginning = desk -> {
            Shops.withPages(desk, 'w', 2);
            desk.print(0, 0, 500);
        };
        // As a short, 65537 would be 1 and 66036 would be 500.
        int[] outside = {
            501, 0, -1, 502, -500, -499, 512, 756, 65536, 65537, 66036, -65535, 536870913, 1073741825,
            Integer.MAX_VALUE, Integer.MIN_VALUE, Integer.MIN_VALUE + 1
        };
        refuseAll(ARGUMENT, "the number", beginning, call, outside);
        refuseAll(ARGUMENT, "the number, not printed", desk -> Shops.withPagesAlone(desk, 'p', 8), call, outside);
        allowAll(ARGUMENT, "the number", beginning, call, 1, 2);
        allowAll(ARGUMENT, "the number", beginning, call, 255, 257);
        allowAll(ARGUMENT, "the number", beginning, call, 499, 500);
    }

    static void noSuchLot(OfNumber call) {
        for (int there : new int[] {0, 1, 2, 99, 100}) {
            Twins.Beginning beginning = desk -> Shops.withLots(desk, there);
            refuseAll(INDEX, there + " lots", beginning, call, outside(there));
            allowAll(INDEX, there + " lots", beginning, call, 0, there - 1);
        }
    }

    /** The call asks lot 0 for a page; its job has more pages by now, and other lots have, too. */
    static void noSuchPageInLot(OfNumber call) {
        for (char binding : BINDINGS) {
            for (int count = places(binding); count <= 16; count += places(binding)) {
                int pages = count;
                Twins.Beginning beginning = desk -> Shops.withLotAndMorePages(desk, binding, pages);
                refuseAll(NONE, "lot with " + pages + " pages", beginning, call, outsideFromOne(pages));
                allowAll(NONE, "lot with " + pages + " pages", beginning, call, 1, pages);
            }
        }
    }

    static void refuseAll(
            Class<? extends RuntimeException> due, String what, Twins.Beginning beginning, OfNumber call, int[] numbers) {
        for (int number : numbers) {
            Twins.refuse(due, what + ", asked for " + number, beginning, desk -> call.ask(desk, number));
        }
    }

    static void allowAll(
            Class<? extends RuntimeException> not, String what, Twins.Beginning beginning, OfNumber call, int first, int last) {
        for (int i = first; i <= last; i++) {
            int number = i;
            allow(not, what + ", asked for " + number, Twins.begun(beginning), desk -> call.ask(desk, number));
        }
    }

    /** The call may throw another exception, but not this one. */
    static void allow(Class<? extends RuntimeException> not, String what, BinderyDesk desk, Twins.Asked call) {
        String answer = Check.answerOf(() -> call.of(desk));
        if (answer.equals("throws." + not.getSimpleName())) {
            Check.due(what, answer, "something else");
        }
    }
}
