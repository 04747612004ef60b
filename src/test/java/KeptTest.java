/** Promise 11; that 2000 are kept is in TermKeptTest. */
public final class KeptTest {
    private static final int MOST = Integer.MAX_VALUE;
    private static final int LEAST = Integer.MIN_VALUE;

    /** Kind, a, b, thread, time and block of each row. */
    private static final int[][] ROWS = {
        {0, 1, 0, 0, 0, 0}, {1, -5, 0, 0, 0, 0}, {4, 10, 0, 0, 10, 0}, {2, 126, 0, 0, 10, 0},
        {3, LEAST, MOST, 3, 0, 1}, {0, 0, 0, 3, 0, 1}, {4, 0, 0, 3, 0, 1},
        {3, 7, -1, 0, 10, 2}, {4, 10, 0, 0, 10, 2}, {4, MOST, 0, 0, MOST, 2}, {0, 1, 0, 0, MOST, 2},
        {0, 0, 0, 1, 0, 3}, {2, MOST, 0, 1, 0, 3}};

    private final Check check = new Check();

    public static void main(String[] args) {
        KeptTest test = new KeptTest();
        test.each();
        test.noRow();
        test.noWhat();
        test.numbersOfBlocks();
        test.choosingLaterChangesNothing();
        test.check.end();
    }

    private static TracePacks read() {
        TracePacks x = new TracePacks();
        for (int[] r : ROWS) {
            x.thread(r[3]);
            x.row(r[0], r[1], r[2]);
        }
        x.mark();
        x.read(0);
        return x;
    }

    private void each() {
        check.about("Of the k-th row that was kept its kind (what 0), a (1), b (2), thread (3), time (4), block (5");
        TracePacks x = read();
        for (int k = 0; k < ROWS.length; k++) {
            for (int what = 0; what < 6; what++) {
                check.equal("kept(" + k + ", " + what + ")", x.kept(k, what), ROWS[k][what]);
            }
        }
    }

    private void noRow() {
        check.about("IndexOutOfBoundsException, when there is none");
        TracePacks x = read();
        check.index("behind the last one", () -> x.kept(ROWS.length, 0));
        check.index("row -1", () -> x.kept(-1, 0));
        check.index("row 1999", () -> x.kept(1999, 0));
        check.index("least", () -> x.kept(LEAST, 5));
        check.index("most", () -> x.kept(MOST, 5));
        x.choose(0, 15);
        x.read(0);
        check.index("none was kept", () -> x.kept(0, 0));
        check.index("nothing was read", () -> new TracePacks().kept(0, 0));
    }

    private void noWhat() {
        check.about("or for another what");
        TracePacks x = read();
        check.index("6", () -> x.kept(0, 6));
        check.index("-1", () -> x.kept(0, -1));
        check.index("least", () -> x.kept(ROWS.length - 1, LEAST));
        check.index("most", () -> x.kept(ROWS.length - 1, MOST));
        check.index("neither row nor what", () -> x.kept(-1, 6));
    }

    private void numbersOfBlocks() {
        check.about("blocks that are not broken are numbered from 0");
        int[] good = Blocks.block(0, 0, 1, 3);
        int[] broken = {126, 1, 2};
        TracePacks x = Blocks.packOf(Blocks.joined(broken, good, broken, broken, good, good));
        check.equal("three rows", x.read(0), 3);
        for (int k = 0; k < 3; k++) {
            check.equal("block of row " + k, x.kept(k, 5), k);
        }
        check.equal("from the second one on", x.read(4), 2);
        check.equal("its number", x.kept(0, 5), 0);
        TracePacks y = read();
        y.choose(4, 15);
        check.equal("loads alone", y.read(0), 2);
        check.equal("blocks without a row that is kept count", y.kept(1, 5), 3);
        y.choose(31, 2);
        check.equal("thread 1 alone", y.read(0), 2);
        check.equal("blocks of other threads count", y.kept(0, 5), 3);
    }

    private void choosingLaterChangesNothing() {
        TracePacks x = read();
        x.choose(0, 0);
        check.equal("kept still", x.kept(12, 1), MOST);
        check.equal("as many still", x.count(7), ROWS.length);
        check.equal("merged still", x.merged(0), 0);
        check.equal("none when read again", x.read(0), 0);
    }
}
