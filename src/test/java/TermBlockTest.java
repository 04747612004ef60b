/** The terms: what a block is, and how it stands in the pack. */
public final class TermBlockTest {
    private static final int MOST = Integer.MAX_VALUE;

    private final Check check = new Check();

    public static void main(String[] args) {
        TermBlockTest test = new TermBlockTest();
        test.oneToHundredRows();
        test.ofOneThread();
        test.threadByte();
        test.timeWhenItBegins();
        test.shielded();
        test.notShielded();
        test.sumsWrapRound();
        test.shieldedSums();
        test.check.end();
    }

    private void oneToHundredRows() {
        check.about("A BLOCK has 1 to 100 rows of one thread.");
        TracePacks x = new TracePacks();
        check.equal("no rows: no block", x.mark(), 0);
        x.row(0, 1, 0);
        check.equal("one row", x.mark(), 10);
        check.equal("the byte of how many", x.byteAt(6), 1);
        TracePacks y = new TracePacks();
        Blocks.writeMany(y, 99, 0, 0);
        check.equal("row 100 is in it", y.row(0, 0, 0), 100);
        check.equal("25 bytes of branches", y.mark(), 1 + 6 + 25 + 2);
        check.equal("the byte of how many is 100", y.byteAt(6), 100);
        TracePacks z = new TracePacks();
        Blocks.writeMany(z, 100, 0, 0);
        check.equal("row 101 is in another one", z.row(0, 0, 0), 1);
        check.equal("which has one row", z.mark(), 34 + 10);
        check.equal("its byte of how many", z.byteAt(34 + 6), 1);
    }

    private void ofOneThread() {
        TracePacks x = new TracePacks();
        x.row(0, 1, 0);
        x.thread(3);
        check.equal("another thread's row is in another block", x.row(0, 1, 0), 1);
        x.thread(0);
        check.equal("the first thread's row then, too", x.row(0, 1, 0), 1);
        x.mark();
        check.bytes("three blocks", x, 0, Blocks.joined(
            Blocks.block(0, 0, 1, 3), Blocks.block(3, 0, 1, 3), Blocks.block(0, 0, 1, 3)));
    }

    private void threadByte() {
        check.about("the thread (one byte)");
        for (int t = 0; t < 4; t++) {
            TracePacks x = new TracePacks();
            x.thread(t);
            x.row(0, 1, 0);
            x.mark();
            check.bytes("thread " + t, x, 0, 126, t, 0, 0, 0, 0, 1, 3, t + 4, 6 * t + 5 + t);
        }
    }

    private void timeWhenItBegins() {
        check.about("the thread's time when it begins (four bytes, the highest first)");
        int[] times = {0, 1, 255, 256, 65535, 65536, 16777215, 16777216, 0x01020304, 0x7d7e7d7e, MOST - 1, MOST};
        for (int time : times) {
            TracePacks x = new TracePacks();
            x.row(4, time, 0);
            int first = x.mark();
            check.equal("a TIME in the block itself comes too late", x.byteAt(2) + x.byteAt(3), 0);
            x.row(0, 1, 0);
            x.mark();
            check.bytes("time " + time, x, first, Blocks.block(0, time, 1, 3));
        }
        TracePacks y = new TracePacks();
        y.row(4, 9, 0);
        y.mark();
        check.argument("a TIME that is refused", () -> y.row(4, 8, 0));
        check.argument("another one", () -> y.row(4, 50, 1));
        int from = y.count(0);
        y.row(4, 20, 0);
        y.mark();
        check.bytes("refused ones do not begin it", y, from, Blocks.block(0, 9, 1, 128, 11));
    }

    private void shielded() {
        check.about("Shielded: instead of a byte 126 stand 125 and 94, instead of 125 stand 125 and 93.");
        TracePacks x = new TracePacks();
        x.row(3, 0, 0x7e7d7e7d);
        check.equal("four bytes are eight", x.mark(), 1 + 6 + 1 + 8 + 2);
        int[] want = {126, 0, 0, 0, 0, 0, 1, 104, 125, 94, 125, 93, 125, 94, 125, 93};
        for (int i = 0; i < want.length; i++) {
            check.equal("byte " + i, x.byteAt(i), want[i]);
        }
        x.read(0);
        check.equal("the value is read", x.kept(0, 2), 0x7e7d7e7d);
        TracePacks y = Blocks.written(new int[] {1, 63});
        check.equal("in a number: 125", y.byteAt(8), 125);
        check.equal("in a number: 94", y.byteAt(9), 94);
        TracePacks z = new TracePacks();
        z.row(4, 0x7e7d7d7e, 0);
        int from = z.mark();
        z.row(0, 1, 0);
        z.mark();
        int[] time = {125, 94, 125, 93, 125, 93, 125, 94, 1};
        for (int i = 0; i < time.length; i++) {
            check.equal("in the block's time: byte " + i, z.byteAt(from + 2 + i), time[i]);
        }
        check.equal("that is read", z.read(from), 1);
        check.equal("the time", z.kept(0, 4), 0x7e7d7d7e);
    }

    private void notShielded() {
        TracePacks x = new TracePacks();
        x.row(3, 0, 0x7c7f5e5d);
        check.equal("124, 127, 94 and 93 are not", x.mark(), 1 + 6 + 5 + 2);
        x.read(0);
        check.equal("and are read", x.kept(0, 2), 0x7c7f5e5d);
    }

    /** A store of a value below 256: its bytes ahead of the last one make p 105, and q 166. */
    private void sumOf(int value, int... sum) {
        TracePacks x = Blocks.written(new int[] {3, 0, value});
        check.bytes("value " + value, x, 0, Blocks.joined(new int[] {126, 0, 0, 0, 0, 0, 1, 104, 0, 0, 0, value}, sum));
        check.equal("value " + value + " is read", x.read(0), 1);
    }

    private void sumsWrapRound() {
        check.about("p is the sum of p and the byte, modulo 255, then q is the sum of q and p, modulo 255");
        sumOf(0, 105, 16);
        sumOf(149, 254, 165);
        sumOf(150, 0, 166);
        sumOf(151, 1, 167);
        sumOf(238, 88, 254);
        sumOf(239, 89, 0);
        sumOf(240, 90, 1);
        sumOf(255, 105, 16);
        TracePacks y = Blocks.written(new int[] {3, 0, -1});
        // 255 is nothing to p, but q goes on.
        check.bytes("255 four times", y, 0, 126, 0, 0, 0, 0, 0, 1, 104, 255, 255, 255, 255, 105, 16);
    }

    private void shieldedSums() {
        check.about("THE ROWS, and the SUM (two bytes). Shielded");
        sumOf(20, 125, 93, 36);
        sumOf(21, 125, 94, 37);
        sumOf(109, 214, 125, 93);
        sumOf(110, 215, 125, 94);
        for (int v = 0; v < 256; v++) {
            TracePacks x = Blocks.written(new int[] {3, 0, v});
            check.bytes("value " + v, x, 0, Blocks.block(0, 0, 1, 104, 0, 0, 0, v));
            check.equal("value " + v + " is read", x.read(0), 1);
        }
    }
}
