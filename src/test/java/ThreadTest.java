/** Promise 2. */
public final class ThreadTest {
    private final Check check = new Check();

    public static void main(String[] args) {
        ThreadTest test = new ThreadTest();
        test.theOneBefore();
        test.none();
        test.rowsThatFollow();
        test.timesAreTheThreadsOwn();
        test.check.end();
    }

    private void theOneBefore() {
        check.about("Rows that follow are of a thread: the one before.");
        TracePacks x = new TracePacks();
        check.equal("thread(3)", x.thread(3), 0);
        check.equal("thread(0)", x.thread(0), 3);
        check.equal("thread(1)", x.thread(1), 0);
        check.equal("the same one again", x.thread(1), 1);
        check.equal("thread(2)", x.thread(2), 1);
        check.equal("and again", x.thread(2), 2);
    }

    private void none() {
        check.about("IndexOutOfBoundsException, when there is none.");
        TracePacks x = new TracePacks();
        x.thread(3);
        x.row(0, 1, 0);
        check.index("thread(4)", () -> x.thread(4));
        check.index("thread(-1)", () -> x.thread(-1));
        check.index("thread(least)", () -> x.thread(Integer.MIN_VALUE));
        check.index("thread(most)", () -> x.thread(Integer.MAX_VALUE));
        check.equal("nothing is changed: the block", x.row(0, 1, 0), 2);
        check.equal("nothing is changed: the thread", x.thread(3), 3);
    }

    private void rowsThatFollow() {
        TracePacks x = new TracePacks();
        x.row(0, 1, 0);
        x.thread(1);
        check.equal("thread() alone closes no block", x.count(3), 0);
        x.thread(0);
        check.equal("back again: the same block", x.row(0, 0, 0), 2);
        x.thread(2);
        check.equal("another thread's row: a new block", x.row(1, 5, 0), 1);
        check.bytes("of thread 0", x, 0, Blocks.block(0, 0, 2, 6));
        int from = x.count(0);
        x.thread(3);
        x.mark();
        check.bytes("the open one stays thread 2's", x, from, Blocks.block(2, 0, 1, 32, 10));
    }

    private void timesAreTheThreadsOwn() {
        check.about("TIME (a: the thread's time from now on");
        TracePacks x = new TracePacks();
        x.row(4, 100, 0);
        x.thread(3);
        check.equal("another thread's time is not 100", x.row(4, 3, 0), 1);
        x.thread(0);
        check.argument("this one's is", () -> x.row(4, 99, 0));
        check.equal("100 again", x.row(4, 100, 0), 1);
        x.mark();
        check.bytes("the third block begins at 100", x, 0, Blocks.joined(Blocks.block(0, 0, 1, 128, 100),
            Blocks.block(3, 0, 1, 128, 3), Blocks.block(0, 100, 1, 128, 0)));
    }
}
