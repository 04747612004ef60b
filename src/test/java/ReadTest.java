/** Promise 10; what is a block and what is broken is in TermReadingTest. */
public final class ReadTest {
    private final Check check = new Check();

    public static void main(String[] args) {
        ReadTest test = new ReadTest();
        test.howManyAreKept();
        test.whatWasReadBeforeIsGone();
        test.ofAnEmptyPack();
        test.refused();
        test.changesNothingElse();
        test.check.end();
    }

    /** Two blocks, of ten bytes each; two rows and one. */
    private static TracePacks twoBlocks() {
        TracePacks x = Blocks.written(new int[][] {{0, 1}, {0, 1}});
        x.thread(1);
        x.row(0, 1, 0);
        x.mark();
        return x;
    }

    private void howManyAreKept() {
        check.about("Reads the pack from a byte on (what was read before is gone): how many rows are kept.");
        TracePacks x = twoBlocks();
        check.equal("from 0", x.read(0), 3);
        check.equal("from 1", x.read(1), 1);
        check.equal("from 10", x.read(10), 1);
        check.equal("from 11", x.read(11), 0);
        check.equal("from 19", x.read(19), 0);
        check.equal("from the end", x.read(20), 0);
        check.equal("from 0 again", x.read(0), 3);
        x.choose(31, 1);
        check.equal("of thread 0", x.read(0), 2);
        x.choose(30, 15);
        check.equal("of no branches", x.read(0), 0);
        x.row(2, 0, 0);
        check.equal("the open block is not read", x.read(0), 0);
        x.mark();
        check.equal("now it is", x.read(0), 1);
    }

    private void whatWasReadBeforeIsGone() {
        TracePacks x = new TracePacks();
        Blocks.putAll(x, Blocks.block(2, 9, 2, 7));
        Blocks.putAll(x, Blocks.block(1, 8, 1, 32, 4));
        Blocks.putAll(x, 126, 1);
        x.read(0);
        check.equal("merged first", x.merged(0), 2);
        check.counts("both blocks", x, x.count(0), 0, 0, 0, 0, 2, 1, 3, 0);
        check.equal("read again", x.read(1), 1);
        check.equal("kept now", x.kept(0, 1), 2);
        check.equal("its block's number now", x.kept(0, 5), 0);
        check.index("no second one", () -> x.kept(1, 0));
        check.merged("now", x, 0);
        x.choose(0, 0);
        check.equal("none is chosen", x.read(0), 0);
        check.counts("none is kept", x, x.count(0), 0, 0, 0, 0, 2, 1, 0, 3);
        check.index("none is kept", () -> x.kept(0, 0));
        check.merged("none", x);
        check.equal("from the end", x.read(x.count(0)), 0);
        check.counts("nothing is there", x, x.count(0), 0, 0, 0, 0, 0, 0, 0, 0);
        x.choose(31, 15);
        check.equal("the pack stays as it is", x.read(0), 3);
        check.merged("as at first", x, 2, 0, 1);
    }

    private void ofAnEmptyPack() {
        TracePacks x = new TracePacks();
        check.equal("of a new one", x.read(0), 0);
        check.counts("of a new one", x, 0, 0, 0, 0, 0, 0, 0, 0, 0);
        check.index("of a new one from 1", () -> x.read(1));
        TracePacks y = twoBlocks();
        y.read(0);
        y.cut(0);
        check.equal("of one that was cut", y.read(0), 0);
        check.counts("of one that was cut", y, 0, 0, 3, 2, 0, 0, 0, 0, 0);
        check.index("from where it was", () -> y.read(1));
    }

    private void refused() {
        check.about("IndexOutOfBoundsException, when it is not 0 up to what the pack has.");
        TracePacks x = twoBlocks();
        x.read(1);
        check.index("behind the end", () -> x.read(21));
        check.index("ahead of 0", () -> x.read(-1));
        check.index("a place that it could have", () -> x.read(16384));
        check.index("least", () -> x.read(Integer.MIN_VALUE));
        check.index("most", () -> x.read(Integer.MAX_VALUE));
        check.counts("what was read stays", x, 20, 0, 3, 2, 9, 1, 0, 1, 0);
        check.equal("its row", x.kept(0, 3), 1);
        check.merged("its order", x, 0);
    }

    private void changesNothingElse() {
        TracePacks x = twoBlocks();
        x.row(4, 7, 0);
        x.choose(3, 5);
        x.read(0);
        check.equal("the choice stays", x.choose(31, 15), 3 + 32 * 5);
        check.equal("the thread stays", x.thread(0), 1);
        check.counts("bytes, rows, blocks stay", x, 20, 1, 4, 2);
        check.bytes("the bytes stay", x, 0, Blocks.joined(Blocks.block(0, 0, 2, 7), Blocks.block(1, 0, 1, 3)));
    }
}
