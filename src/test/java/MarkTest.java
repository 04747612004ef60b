/** Promise 4; the block's bytes are in TermBlockTest, that the pack has no room is in TermPackTest. */
public final class MarkTest {
    private final Check check = new Check();

    public static void main(String[] args) {
        MarkTest test = new MarkTest();
        test.withoutABlock();
        test.withABlock();
        test.changesNothingElse();
        test.check.end();
    }

    private void withoutABlock() {
        check.about("Closes the open block, if there is one: how many bytes the pack has.");
        TracePacks x = new TracePacks();
        check.equal("of a new object", x.mark(), 0);
        check.equal("again", x.mark(), 0);
        x.put(1);
        check.equal("behind a byte that was put", x.mark(), 1);
        check.argument("a row that is refused", () -> x.row(0, 2, 0));
        check.equal("behind a refused row", x.mark(), 1);
        check.counts("none was closed", x, 1, 0, 0, 0);
        check.bytes("nothing was written", x, 0, 1);
    }

    private void withABlock() {
        TracePacks x = new TracePacks();
        x.row(0, 1, 0);
        check.equal("one block", x.mark(), 10);
        check.equal("no block again", x.mark(), 10);
        check.counts("one was closed", x, 10, 0, 1, 1);
        check.equal("a new block", x.row(0, 1, 0), 1);
        check.equal("two blocks", x.mark(), 20);
        check.counts("two were closed", x, 20, 0, 2, 2);
        check.bytes("both", x, 0, Blocks.joined(Blocks.block(0, 0, 1, 3), Blocks.block(0, 0, 1, 3)));
        x.cut(0);
        check.equal("without bytes", x.mark(), 0);
        x.row(0, 1, 0);
        check.equal("the first block again", x.mark(), 10);
        check.counts("three were closed", x, 10, 0, 3, 3);
    }

    private void changesNothingElse() {
        TracePacks x = new TracePacks();
        x.choose(3, 5);
        x.thread(2);
        x.row(4, 7, 0);
        x.mark();
        x.read(0);
        x.row(0, 1, 0);
        x.mark();
        check.counts("what was read stays", x, 21, 0, 2, 2, 0, 1, 0, 0, 1);
        check.argument("the time stays", () -> x.row(4, 6, 0));
        check.equal("the thread stays", x.thread(0), 2);
        check.equal("the choice stays", x.choose(0, 0), 3 + 32 * 5);
    }
}
