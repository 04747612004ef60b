/** Promise 2. */
public final class ThreadTest {
    public static void main(String[] args) {
        Check check = new Check();
        TracePacks x = new TracePacks();
        check.equal("thread(3)", x.thread(3), 0);
        check.index("thread(4)", () -> x.thread(4));
        check.index("thread(-1)", () -> x.thread(-1));
        check.index("thread(least)", () -> x.thread(Integer.MIN_VALUE));
        check.index("thread(most)", () -> x.thread(Integer.MAX_VALUE));
        check.equal("a wrong one changes nothing", x.thread(1), 3);
        check.equal("the same one again", x.thread(1), 1);
        check.equal("thread(0)", x.thread(0), 1);
        onlyARowCloses(check);
        timesAreTheThreadsOwn(check);
        check.end();
    }

    private static void onlyARowCloses(Check check) {
        TracePacks x = new TracePacks();
        x.row(0, 1, 0);
        x.thread(1);
        check.equal("thread() alone closes no block", x.count(3), 0);
        x.thread(0);
        check.equal("back again: the same block", x.row(0, 0, 0), 2);
        x.thread(2);
        check.equal("another thread's row: a new block", x.row(1, 5, 0), 1);
        check.equal("closed", x.count(3), 1);
        check.bytes("of thread 0", x, 0, Blocks.block(0, 0, 2, 6));
        int length = x.mark();
        check.equal("behind it thread 2", x.byteAt(Blocks.block(0, 0, 2, 6).length + 1), 2);
        check.equal("mark() again", x.mark(), length);
    }

    private static void timesAreTheThreadsOwn(Check check) {
        TracePacks x = new TracePacks();
        x.row(4, 100, 0);
        x.thread(3);
        check.equal("another thread's time is not 100", x.row(4, 3, 0), 1);
        x.thread(0);
        check.argument("this one's is", () -> x.row(4, 99, 0));
        check.equal("100 again", x.row(4, 100, 0), 1);
        x.mark();
        int[] first = Blocks.block(0, 0, 1, 128, 100);
        int[] second = Blocks.block(3, 0, 1, 128, 3);
        int[] third = Blocks.block(0, 100, 1, 128, 0);
        check.bytes("the third block begins at 100", x, first.length + second.length, third);
    }
}
