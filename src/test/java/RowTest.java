/** Promise 3; the rows' bytes are in TermRowsTest, that the pack has no room is in TermPackTest. */
public final class RowTest {
    private static final int MOST = Integer.MAX_VALUE;
    private static final int LEAST = Integer.MIN_VALUE;

    private final Check check = new Check();

    public static void main(String[] args) {
        RowTest test = new RowTest();
        test.howManyTheOpenBlockHas();
        test.leastAndMost();
        test.kinds();
        test.outcomes();
        test.times();
        test.bs();
        test.refusedOnesDoNothing();
        test.check.end();
    }

    private void howManyTheOpenBlockHas() {
        check.about("A row: how many the open block has with it.");
        TracePacks x = new TracePacks();
        for (int i = 1; i <= 100; i++) {
            check.equal("row " + i, x.row(2, 0, 0), i);
        }
        check.equal("row 101", x.row(2, 0, 0), 1);
        check.equal("row 102", x.row(2, 0, 0), 2);
        x.mark();
        check.equal("behind mark()", x.row(2, 0, 0), 1);
        x.thread(1);
        check.equal("of another thread", x.row(2, 0, 0), 1);
        check.equal("of the same one", x.row(2, 0, 0), 2);
        check.equal("rows so far", x.count(2), 105);
    }

    private void leastAndMost() {
        TracePacks x = new TracePacks();
        int[][] rows = {{0, 0, 0}, {0, 1, 0}, {1, LEAST, 0}, {1, MOST, 0}, {1, -1, 0}, {2, LEAST, 0}, {2, MOST, 0},
            {3, MOST, LEAST}, {3, LEAST, MOST}, {3, -1, -1}, {4, 0, 0}, {4, MOST, 0}, {4, MOST, 0}};
        for (int i = 0; i < rows.length; i++) {
            check.equal("row " + i, x.row(rows[i][0], rows[i][1], rows[i][2]), i + 1);
        }
        x.mark();
        check.equal("read again", x.read(0), rows.length);
        for (int i = 0; i < rows.length; i++) {
            for (int what = 0; what < 3; what++) {
                check.equal("row " + i + ", " + what, x.kept(i, what), rows[i][what]);
            }
        }
    }

    private void refused(int kind, int a, int b) {
        TracePacks x = new TracePacks();
        check.argument("row(" + kind + ", " + a + ", " + b + ")", () -> x.row(kind, a, b));
        check.counts("nothing is done by row(" + kind + ", " + a + ", " + b + ")", x, 0, 0, 0, 0);
    }

    private void kinds() {
        check.about("IllegalArgumentException, when the kind is not 0 .. 4");
        refused(-1, 0, 0);
        refused(5, 0, 0);
        refused(7, 1, 0);
        refused(MOST, 0, 0);
        refused(LEAST, 0, 0);
    }

    private void outcomes() {
        check.about("a of a BRANCH not 0 or 1");
        refused(0, 2, 0);
        refused(0, -1, 0);
        refused(0, MOST, 0);
        refused(0, LEAST, 0);
    }

    private void times() {
        check.about("a of a TIME below the thread's time");
        refused(4, -1, 0);
        refused(4, LEAST, 0);
        TracePacks x = new TracePacks();
        x.row(4, 10, 0);
        check.argument("9", () -> x.row(4, 9, 0));
        check.equal("10", x.row(4, 10, 0), 2);
        x.mark();
        check.argument("9 in the next block", () -> x.row(4, 9, 0));
        x.cut(0);
        check.argument("9, with the blocks cut", () -> x.row(4, 9, 0));
        x.thread(1);
        check.equal("9 of another thread", x.row(4, 9, 0), 1);
        x.thread(0);
        check.argument("0", () -> x.row(4, 0, 0));
        check.equal("the latest", x.row(4, MOST, 0), 1);
        check.argument("one below the latest", () -> x.row(4, MOST - 1, 0));
        check.argument("the least", () -> x.row(4, LEAST, 0));
        check.equal("the latest again", x.row(4, MOST, 0), 2);
    }

    private void bs() {
        check.about("or b not 0 (but of a STORE)");
        for (int kind = 0; kind <= 4; kind++) {
            for (int b : new int[] {1, -1, MOST, LEAST}) {
                if (kind != 3) {
                    refused(kind, 1, b);
                } else {
                    check.equal("a STORE's", new TracePacks().row(3, 1, b), 1);
                }
            }
        }
    }

    /** A block with refused rows between is as if they had not come. */
    private void refusedOnesDoNothing() {
        int[][] wrong = {{-1, 0, 0}, {5, 0, 0}, {0, 2, 0}, {0, 1, 1}, {1, 60, 1}, {2, 70, 1}, {4, -1, 0}, {4, 80, 1}};
        int[][] right = {{0, 1, 0}, {0, 0, 0}, {1, 6, 0}, {2, 7, 0}, {3, 8, 1}, {3, 8, 1}, {4, 9, 0}, {2, 14, 0}};
        TracePacks x = new TracePacks();
        for (int i = 0; i < right.length; i++) {
            for (int[] w : wrong) {
                check.argument("row " + w[0] + " ahead of row " + i, () -> x.row(w[0], w[1], w[2]));
            }
            check.equal("row " + i, x.row(right[i][0], right[i][1], right[i][2]), i + 1);
        }
        x.thread(1);
        for (int[] w : wrong) {
            check.argument("row " + w[0] + " of another thread", () -> x.row(w[0], w[1], w[2]));
        }
        check.counts("open still", x, 0, 8, 8, 0);
        x.mark();
        check.bytes("the block", x, 0, Blocks.block(0, 0, 8,
            6, 32, 12, 65, 14, 120, 16, 0, 0, 0, 1, 112, 0, 128, 9, 64));
    }
}
