/** All pairs of sides: 12 contents alone, and each one with each one. */
final class PlatePairs {
    private PlatePairs() {
    }

    /** Any two sides with other contents have other plates; odd contents are in this state, even ones in 0. */
    static void dueOfAll(int oddState) {
        for (int one = 0; one < 156; one++) {
            for (int two = 0; two < 156; two++) {
                if (one != two) {
                    dueOfTwo(oddState, one / 13, one % 13, two / 13, two % 13);
                }
            }
        }
    }

    /** A second content of 12 means that the side has only the first. */
    private static void dueOfTwo(int oddState, int a, int b, int c, int d) {
        BinderyDesk desk = Check.withContents(12);
        int first = jobWithSide(desk, a, b);
        int second = jobWithSide(desk, c, d);
        for (int content = 1; content < 12; content += 2) {
            boolean shown = content == a || content == b || content == c || content == d;
            for (int i = 0; shown && i < oddState; i++) {
                desk.correct(content);
            }
        }
        Check.approveAll(desk, 12);
        desk.print(first, 0, 1);
        String sides = "(" + a + ", " + b + ") and (" + c + ", " + d + ")";
        Check.due("plates needed of " + sides, desk.platesNeeded(second), 1);
        Check.due("makeready of " + sides, desk.makeready(second, 0), (b == 12) == (d == 12) ? 40 : 55);
        desk.print(second, 0, 1);
        Check.due("plates of " + sides, desk.plates(), 2);
        Check.due("plates needed behind " + sides, desk.platesNeeded(first), 0);
    }

    private static int jobWithSide(BinderyDesk desk, int first, int second) {
        return second == 12 ? Check.job(desk, 'w', first, first) : Check.job(desk, 'p', second, first, second, first);
    }
}
