/** Promise 11. */
public final class KeptTest {
    public static void main(String[] args) {
        Check check = new Check();
        TracePacks x = new TracePacks();
        int[][] want = write(x);
        check.equal("rows kept", x.read(0), want.length);
        for (int k = 0; k < want.length; k++) {
            for (int what = 0; what < 6; what++) {
                check.equal("kept(" + k + ", " + what + ")", x.kept(k, what), want[k][what]);
            }
        }
        check.index("no such row", () -> x.kept(want.length, 0));
        check.index("row -1", () -> x.kept(-1, 0));
        check.index("row 1999", () -> x.kept(1999, 0));
        check.index("no such what", () -> x.kept(0, 6));
        check.index("what -1", () -> x.kept(0, -1));
        check.index("neither", () -> x.kept(Integer.MIN_VALUE, Integer.MAX_VALUE));
        timeOfATimeThatIsNotChosen(check, x);
        choosingLaterChangesNothing(check, x);
        check.end();
    }

    /** Kind, a, b, thread, time and block of each row. */
    private static int[][] write(TracePacks x) {
        int[][] rows = {
            {0, 1, 0, 0, 0, 0}, {1, -5, 0, 0, 0, 0}, {4, 10, 0, 0, 10, 0}, {2, 126, 0, 0, 10, 0},
            {3, Integer.MIN_VALUE, Integer.MAX_VALUE, 3, 0, 1}, {0, 0, 0, 3, 0, 1}, {4, 0, 0, 3, 0, 1},
            {3, 7, -1, 0, 10, 2}, {4, 10, 0, 0, 10, 2}, {4, Integer.MAX_VALUE, 0, 0, Integer.MAX_VALUE, 2},
            {0, 1, 0, 0, Integer.MAX_VALUE, 2}, {0, 0, 0, 1, 0, 3}, {2, Integer.MAX_VALUE, 0, 1, 0, 3}};
        for (int[] r : rows) {
            x.thread(r[3]);
            x.row(r[0], r[1], r[2]);
        }
        x.mark();
        return rows;
    }

    private static void timeOfATimeThatIsNotChosen(Check check, TracePacks x) {
        x.choose(4, 15);
        check.equal("loads alone", x.read(0), 2);
        check.equal("the time of a TIME that is not kept", x.kept(0, 4), 10);
        check.equal("its block", x.kept(0, 5), 0);
        check.equal("the block of the other one, all blocks counted", x.kept(1, 5), 3);
    }

    private static void choosingLaterChangesNothing(Check check, TracePacks x) {
        x.choose(0, 0);
        check.equal("kept still", x.kept(1, 1), Integer.MAX_VALUE);
        check.equal("as many still", x.count(7), 2);
        check.equal("none when read again", x.read(0), 0);
        check.index("none is kept", () -> x.kept(0, 0));
    }
}
